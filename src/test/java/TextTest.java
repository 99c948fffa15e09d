/** Promises 1 to 4 and 25: a new object, type, clear, tell, count. */
public final class TextTest {
    private static final Due DUE = new Due("TextTest");
    private static final String TWO = "person 0;person 1;";

    public static void main(String[] args) {
        newObject();
        typing();
        clearing();
        telling();
        tellingAnew();
        faultsOfOrder();
        faultsOfSigns();
        faultsOfNumbers();
        faultsOfLimits();
        faultChangesNothing();
        counting();
        DUE.end();
    }

    private static void newObject() {
        ThreeVoices x = new ThreeVoices();
        for (int what = 0; what < 5; what++) {
            DUE.is("new: count(" + what + ")", x.count(what), 0);
        }
        DUE.is("new: trace", x.trace(), 0);
        DUE.is("new: empty", x.empty(), 0);
        DUE.is("new: event", x.event(0, 0), ThreeVoices.BAD);
        DUE.is("new: place", x.place(0), ThreeVoices.BAD);
        DUE.is("new: back", x.back(0), ThreeVoices.STATE);
        DUE.is("new: back", x.back(1), ThreeVoices.STATE);
        DUE.is("new: undo", x.undo(), ThreeVoices.STATE);
        DUE.is("new: clear", x.clear(), 0);
        DUE.is("new: hints", x.hints(0, 0), ThreeVoices.NONE);
        DUE.is("new: hinder", x.hinder(0, 0), 0);
        DUE.is("new: chance upper", x.chance(0, 0, 1, 2, 0), 0);
        DUE.is("new: chance lower", x.chance(0, 0, 1, 2, 1), 1);
        DUE.is("new: law", x.law(3, -1, 0), ThreeVoices.NONE);
    }

    private static void typing() {
        ThreeVoices x = new ThreeVoices();
        DUE.is("type n 0", x.type(65, 0), ThreeVoices.BAD);
        DUE.is("type n -1", x.type(65, -1), ThreeVoices.BAD);
        DUE.is("type n 9", x.type(65, 9), ThreeVoices.BAD);
        DUE.is("type n most", x.type(65, Integer.MAX_VALUE), ThreeVoices.BAD);
        DUE.is("type 1", x.type(65, 1), 1);
        DUE.is("type 8", x.type(-1, 8), 9);
        DUE.is("count 4", x.count(4), 9);
        x.clear();
        // The lowest bytes alone, the highest of them first: "person 0;" with other bytes above "p" left out.
        DUE.is("type higher bytes", x.type(0x5a5a5a5a5a5a70L, 1), 1);
        DUE.is("type erson 0;", x.type(0x6572736f6e20303bL, 8), 9);
        DUE.is("tell person 0;", x.tell(), 1);
        for (int i = 1; i <= 50; i++) {
            DUE.is("type to the brim", x.type(0x2020202020202020L, 8), 8 * i);
        }
        DUE.is("type beyond 400", x.type(32, 1), ThreeVoices.FULL);
        DUE.is("BAD ahead of FULL", x.type(32, 9), ThreeVoices.BAD);
        DUE.is("nothing came", x.count(4), 400);
        DUE.is("clear", x.clear(), 400);
        Due.type(x, " ".repeat(399));
        DUE.is("type 2 on 399", x.type(0x2020, 2), ThreeVoices.FULL);
        DUE.is("type 1 on 399", x.type(0x20, 1), 400);
        DUE.is("400 blanks", x.tell(), 0);
    }

    private static void clearing() {
        ThreeVoices x = new ThreeVoices();
        Due.type(x, "person");
        DUE.is("clear", x.clear(), 6);
        DUE.is("clear again", x.clear(), 0);
        Due.type(x, "person 3;");
        DUE.is("tell", x.tell(), 1);
        DUE.is("place", x.place(0), 3);
    }

    private static void telling() {
        DUE.is("nothing", Due.telling(""), 0);
        DUE.is("blanks", Due.telling("   "), 0);
        DUE.is("no blanks needed", Due.telling("person0;person1;talk0 0 1;say1 0 0;"), 4);
        DUE.is("many blanks", Due.telling("  person  0  ;person   1 ;  talk   0   0  1  ;   "), 3);
        DUE.is("EVENTS ahead of people told later", Due.telling("person 0;say 0 0 0;person 0;talk 0 0 1;"), 4);
        ThreeVoices x = Due.told(TWO + "talk 1 0 1;maybe 2 1 0;think 2 0 3;say 98 1 2;move 99 0 3;");
        long[][] want = {{0, 1, 0, 1}, {1, 2, 1, 0}, {2, 2, 0, 3}, {3, 98, 1, 2}, {4, 99, 0, 3}};
        for (int k = 0; k < 5; k++) {
            for (int what = 0; what < 4; what++) {
                DUE.is("event(" + k + ", " + what + ")", x.event(k, what), want[k][what]);
            }
        }
        DUE.is("TODAY", x.count(3), 99);
        DUE.is("the TEXT is empty", x.count(4), 0);
        DUE.is("largest numbers", Due.telling("person 3;say 99 0 3;move 99 0 3;"), 3);
        DUE.is("40 EVENTS", Due.telling("person0;" + "say0 0 0;".repeat(40)), 41);
        DUE.is("8 PEOPLE, 6 MAYBE ones", Due.telling("person 0;".repeat(8) + "maybe 0 7 6;".repeat(6)), 14);
    }

    private static void tellingAnew() {
        ThreeVoices x = Due.told(TWO + "maybe 3 0 1;say 4 0 0;");
        x.keep(0);
        x.keep(1);
        x.mark(0, 0, 0);
        Due.type(x, "person 2;");
        DUE.is("told anew", x.tell(), 1);
        DUE.is("PEOPLE", x.count(0), 1);
        DUE.is("EVENTS", x.count(1), 0);
        DUE.is("MAYBE ones", x.count(2), 0);
        DUE.is("TODAY", x.count(3), 0);
        DUE.is("PLACE", x.place(0), 2);
        DUE.is("image 0 is gone", x.back(0), ThreeVoices.STATE);
        DUE.is("image 1 is gone", x.back(1), ThreeVoices.STATE);
        DUE.is("the TRACE stays", x.trace(), 1);
        x.comes(3, 0, 0);
        x.keep(1);
        DUE.is("no text tells nobody", x.tell(), 0);
        DUE.is("nobody", x.count(0), 0);
        DUE.is("no EVENTS", x.count(1), 0);
        DUE.is("image gone", x.back(1), ThreeVoices.STATE);
    }

    private static void fault(String text, int place) {
        DUE.is("tell \"" + text + "\"", Due.telling(text), -10 - place);
    }

    private static void faultsOfOrder() {
        fault("person", 6);
        fault("person 0", 8);
        fault("person 0  ", 10);
        fault("person  ", 8);
        fault(";", 0);
        fault(" 7 person 0;", 1);
        fault("person ;", 7);
        fault("person person", 7);
        fault("person 0 0;", 9);
        fault("person 0;;", 9);
        fault("person 0 person 0;", 9);
        fault(TWO + "talk 0 0;", 26);
        fault(TWO + "talk 0 0 1 1;", 29);
        fault(TWO + "talk 0 0 1", 28);
        fault(TWO + "move;", 22);
        fault(TWO + "say 0 0 think 0 0 0;", 26);
    }

    private static void faultsOfSigns() {
        fault("persons 0;", 0);
        fault("perso 0;", 0);
        fault("personperson 0;", 0);
        fault("personz 0;", 0);
        fault("persona 0;", 0);
        fault("Person 0;", 0);
        fault("pErson 0;", 0);
        fault("p", 0);
        fault("stalk 0 0 1;", 0);
        fault("person 0;thinks 0 0 0;", 9);
        fault("person 0;may 0 0 1;", 9);
        fault("person -1;", 7);
        fault("person 0,", 8);
        fault("person\t0;", 6);
        fault("person 0;\n", 9);
        fault("\u0000", 0);
        fault("person 0;\u00ff", 9);
        fault("person 0;`", 9);
        fault("person 0;{", 9);
        fault("person 0:", 8);
        fault("person /;", 7);
    }

    private static void faultsOfNumbers() {
        fault("person 4;", 7);
        fault("person 00;", 7);
        fault("person 01;", 7);
        fault("person 100;", 7);
        fault("person 4294967296;", 7);
        fault("person 99999999999999999999999;", 7);
        fault("person 0 100", 9);
        fault("talk 0 0 1;", 7);
        fault("say 0 0 0;", 6);
        fault(TWO + "say 100 0 0;", 22);
        fault(TWO + "say 00 0 0;", 22);
        fault(TWO + "say 5 0 0;say 4 0 0;", 32);
        fault(TWO + "say 5 2 0;", 24);
        fault(TWO + "say 5 0 4;", 26);
        fault(TWO + "think 5 0 4;", 28);
        fault(TWO + "move 5 0 4;", 27);
        fault(TWO + "talk 0 0 0;", 27);
        fault(TWO + "talk 0 0 2;", 27);
        fault(TWO + "talk 0 2 0;", 25);
        fault(TWO + "maybe 0 1 1;", 28);
        fault("person 0;maybe 0 0 1;person 0;", 19);
    }

    private static void faultsOfLimits() {
        fault("person 0;".repeat(9), 72);
        fault("person 0;".repeat(8) + "person", 72);
        fault(TWO + "maybe 0 0 1;".repeat(7), 90);
        fault("person0;" + "say0 0 0;".repeat(41), 368);
        fault("person0;person0;" + "maybe0 0 1;".repeat(6) + "say0 0 0;".repeat(34) + "maybe", 388);
        DUE.is("a TALK behind six MAYBE ones", Due.telling(TWO + "maybe 0 0 1;".repeat(6) + "talk 0 0 1;"), 9);
    }

    private static void faultChangesNothing() {
        ThreeVoices x = Due.told(TWO + "maybe 3 0 1;say 4 0 0;");
        x.keep(0);
        x.comes(4, 0, 3);
        Due.type(x, "person 0;person 0;person 0;talk 9 1 2;say 8 0 0;");
        DUE.is("FAULT", x.tell(), -10 - 42);
        DUE.is("PEOPLE", x.count(0), 2);
        DUE.is("EVENTS", x.count(1), 3);
        DUE.is("MAYBE ones", x.count(2), 1);
        DUE.is("TODAY", x.count(3), 4);
        DUE.is("the TEXT stays", x.count(4), 48);
        DUE.is("PLACE", x.place(0), 3);
        DUE.is("again", x.tell(), -10 - 42);
        DUE.is("the image stays", x.back(0), 2);
        DUE.is("PLACE", x.place(0), 0);
        DUE.is("more text", x.type(0x20, 1), 49);
    }

    private static void counting() {
        ThreeVoices x = Due.told("person 0;person 0;person 0;maybe 2 0 1;maybe 3 1 2;say 7 0 0;say 7 1 1;");
        Due.type(x, "hello");
        long[] want = {3, 4, 2, 7, 5, ThreeVoices.BAD, ThreeVoices.BAD};
        for (int what = 0; what < want.length; what++) {
            DUE.is("count(" + what + ")", x.count(what), want[what]);
        }
        DUE.is("count(-1)", x.count(-1), ThreeVoices.BAD);
        DUE.is("count(least)", x.count(Integer.MIN_VALUE), ThreeVoices.BAD);
    }
}
