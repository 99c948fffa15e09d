/** The boundary cases of promises 1 to 4 and 25, a test each: a new object, type, clear, tell, count. */
public final class TextBoundsTest {
    private static final Due DUE = new Due("TextBoundsTest");
    private static final int BAD = ThreeVoices.BAD, STATE = ThreeVoices.STATE, FULL = ThreeVoices.FULL;
    private static final int NONE = ThreeVoices.NONE, NO = ThreeVoices.NO;
    private static final int LEAST = Integer.MIN_VALUE, MOST = Integer.MAX_VALUE;
    private static final String TWO = "person 0;person 1;";

    public static void main(String[] args) {
        newHasNobody();
        newHasNoEvents();
        newHasNoLaw();
        newHasNoImageTextOrTrace();
        objectsShareNothing();
        typeOneToEightBytes();
        typeLowestBytesAlone();
        typeBytesAbove127();
        typeOfATooSmallOrLargeNumber();
        typeToTheLastByte();
        typeFull();
        typeBadAheadOfFull();
        clearOfNone();
        clearOfFull();
        clearOfAFault();
        tellOfNoItems();
        tellOfAFullText();
        tellEndsTooEarly();
        tellEndsTooEarlyAtTheLastByte();
        tellOfNoBlanksAndMany();
        tellOfOtherBytes();
        tellOfWordsThatAreNone();
        tellOfNumbers();
        tellOfALargeNumberThatComesRound();
        tellOfPlaces();
        tellOfThings();
        tellOfPeopleThatThereAreNot();
        tellOfOneAndTheSame();
        tellOfDays();
        tellOfTooManyPeople();
        tellOfTooManyEvents();
        tellOfTooManyMaybes();
        tellOfTheFirstFaultOfTwo();
        tellOfASecondItem();
        tellOfTheLastOnes();
        tellSetsToday();
        tellForgetsImages();
        tellOfAFaultChangesNothing();
        countOfWhat();
        countAtTheLimits();
        DUE.end();
    }

    private static void newHasNobody() {
        ThreeVoices x = new ThreeVoices();
        DUE.is("nobody", x.count(0), 0);
        DUE.is("place(0)", x.place(0), BAD);
        DUE.is("origins(0, 0, 0)", x.origins(0, 0, 0), BAD);
        DUE.is("voice(0, 0, 0)", x.voice(0, 0, 0), BAD);
        DUE.is("keepAt(0, 0)", x.keepAt(0, 0), BAD);
        DUE.is("mark(0, 0, 0)", x.mark(0, 0, 0), NO);
        for (int sort = 0; sort < 5; sort++) {
            DUE.is("comes(" + sort + ", 0, 1) to nobody", x.comes(sort, 0, 1), BAD);
        }
    }

    private static void newHasNoEvents() {
        ThreeVoices x = new ThreeVoices();
        DUE.is("EVENTS", x.count(1), 0);
        DUE.is("MAYBE ones", x.count(2), 0);
        DUE.is("TODAY", x.count(3), 0);
        DUE.is("event(0, 0)", x.event(0, 0), BAD);
        DUE.is("undo", x.undo(), STATE);
        DUE.is("days(99) from 0", x.days(99), 99);
    }

    private static void newHasNoLaw() {
        ThreeVoices x = new ThreeVoices();
        for (int t = 0; t < 4; t++) {
            DUE.is("law", x.law(t, 63, 0), NONE);
            DUE.is("THE THREE", x.law(t, 0, 1), NONE);
            DUE.is("stands", x.stands(t), 0);
            DUE.is("falls", x.falls(t), 0);
            DUE.is("alone", x.alone(t), 0);
            DUE.is("hints of nobody", x.hints(t, 99), NONE);
            DUE.is("hinder nobody", x.hinder(t, 99), 0);
            DUE.is("turns of nobody", x.turns(t, 0, 1), 0);
            DUE.is("turns of nobody", x.turns(t, 99, 2), 0);
            DUE.is("chance of nobody", x.chance(t, 0, 9, 9, 0), 0);
            DUE.is("chance of nobody", x.chance(t, 0, 9, 9, 1), 1);
        }
        DUE.is("empty", x.empty(), 0);
    }

    private static void newHasNoImageTextOrTrace() {
        ThreeVoices x = new ThreeVoices();
        DUE.is("back(0)", x.back(0), STATE);
        DUE.is("back(1)", x.back(1), STATE);
        DUE.is("bytes", x.count(4), 0);
        DUE.is("clear", x.clear(), 0);
        DUE.is("tell", x.tell(), 0);
        DUE.is("trace", x.trace(), 0);
    }

    private static void objectsShareNothing() {
        ThreeVoices x = Due.told(TWO + "say 7 0 0;");
        x.keep(0);
        x.mark(0, 0, 0);
        Due.type(x, "person");
        ThreeVoices y = new ThreeVoices();
        for (int what = 0; what < 5; what++) {
            DUE.is("count(" + what + ") of another", y.count(what), 0);
        }
        DUE.is("trace of another", y.trace(), 0);
        DUE.is("back(0) of another", y.back(0), STATE);
    }

    private static void typeOneToEightBytes() {
        ThreeVoices x = new ThreeVoices();
        int had = 0;
        for (int n = 1; n <= 8; n++) {
            had += n;
            DUE.is("type n " + n, x.type(0x2020202020202020L, n), had);
        }
        DUE.is("36 blanks", x.tell(), 0);
    }

    private static void typeLowestBytesAlone() {
        ThreeVoices x = new ThreeVoices();
        x.type(0x78787878706572L, 3);
        x.type(0x78786e6f736f6e20L, 3);
        x.clear();
        x.type(-1L << 24 | 0x706572L, 3);
        x.type(Long.MIN_VALUE | 0x736f6eL, 3);
        x.type(0x7f7f7f7f7f7f2032L, 2);
        x.type(0x13b, 1);
        DUE.is("the lowest bytes, the highest first", x.tell(), 1);
        DUE.is("person 2;", x.place(0), 2);
    }

    private static void typeBytesAbove127() {
        ThreeVoices x = new ThreeVoices();
        DUE.is("all bits", x.type(-1, 8), 8);
        DUE.is("a byte 255 is none", x.tell(), -10);
        x.clear();
        x.type(Long.MIN_VALUE, 8);
        DUE.is("a byte 128 is none", x.tell(), -10);
        x.clear();
        x.type(0x20202020202020a0L, 8);
        DUE.is("a byte 160 is no blank", x.tell(), -17);
        x.clear();
        Due.type(x, "person 3;");
        x.type(0xbbL, 1);
        DUE.is("a byte 187 is no ;", x.tell(), -19);
    }

    private static void typeOfATooSmallOrLargeNumber() {
        int[] bad = {0, 9, -1, -8, 16, 256, 257, LEAST, LEAST + 1, MOST};
        for (int n : bad) {
            Refused.is(DUE, "type(32, " + n + ")", x -> x.type(32, n), BAD);
        }
    }

    private static void typeToTheLastByte() {
        for (int n = 1; n <= 8; n++) {
            ThreeVoices x = new ThreeVoices();
            Due.type(x, " ".repeat(400 - n));
            DUE.is("the last " + n, x.type(0x2020202020202020L, n), 400);
            DUE.is("all 400", x.tell(), 0);
        }
    }

    private static void typeFull() {
        for (int n = 1; n <= 8; n++) {
            int more = n;
            ThreeVoices x = new ThreeVoices();
            Due.type(x, " ".repeat(401 - n));
            Refused.on(DUE, "one byte too many of " + n, x, y -> y.type(0x2020202020202020L, more), FULL);
            DUE.is("none came", x.count(4), 401 - n);
            Due.type(x, " ".repeat(n - 1));
            Refused.on(DUE, "type " + n + " on 400", x, y -> y.type(0x2020202020202020L, more), FULL);
            DUE.is("empty then", x.clear(), 400);
            DUE.is("room again", x.type(32, 1), 1);
        }
    }

    private static void typeBadAheadOfFull() {
        ThreeVoices x = new ThreeVoices();
        Due.type(x, " ".repeat(400));
        DUE.is("n 0", x.type(32, 0), BAD);
        DUE.is("n 9", x.type(32, 9), BAD);
        DUE.is("n most", x.type(32, MOST), BAD);
        DUE.is("n 1", x.type(32, 1), FULL);
    }

    private static void clearOfNone() {
        ThreeVoices x = Due.told(TWO);
        DUE.is("told texts are empty", x.clear(), 0);
        DUE.is("and again", x.clear(), 0);
        DUE.is("PEOPLE stay", x.count(0), 2);
    }

    private static void clearOfFull() {
        ThreeVoices x = new ThreeVoices();
        Due.type(x, "x".repeat(400));
        DUE.is("clear", x.clear(), 400);
        DUE.is("bytes", x.count(4), 0);
        Due.type(x, "person 1;" + " ".repeat(391));
        DUE.is("none of those before is left", x.tell(), 1);
    }

    private static void clearOfAFault() {
        ThreeVoices x = new ThreeVoices();
        Due.type(x, "person 4;");
        DUE.is("FAULT", x.tell(), -17);
        DUE.is("clear", x.clear(), 9);
        Due.type(x, "son 0;");
        DUE.is("half a word is gone", x.tell(), -10);
    }

    private static void tellOfNoItems() {
        DUE.is("no byte", Due.telling(""), 0);
        DUE.is("one blank", Due.telling(" "), 0);
        ThreeVoices x = Due.told(TWO + "maybe 3 0 1;");
        x.keep(0);
        x.days(2);
        DUE.is("no ITEMS", x.tell(), 0);
        for (int what = 0; what < 5; what++) {
            DUE.is("count(" + what + ")", x.count(what), 0);
        }
        DUE.is("the image is gone", x.back(0), STATE);
    }

    private static void tellOfAFullText() {
        String people = "person 0;".repeat(7) + "person  0;";
        String events = "talk 10 0 1;".repeat(27);
        ThreeVoices x = new ThreeVoices();
        DUE.is("400 bytes", Due.type(x, people + events + "   "), 400);
        DUE.is("35 ITEMS", x.tell(), 35);
        DUE.is("bytes", x.count(4), 0);
        ThreeVoices y = new ThreeVoices();
        DUE.is("400 ;", Due.type(y, ";".repeat(400)), 400);
        DUE.is("the first of them", y.tell(), -10);
    }

    private static void tellEndsTooEarly() {
        String person = "person 0;";
        String[] parts = {"person", "person ", "person 0", "person 0  ", person + "talk", person + "talk 5",
            person + "move 5 0", person + "move 5 0 3", person + "move 5 0 3 ", person + person + "maybe 9 0",
            person + person + "maybe 9 1 0"};
        for (String part : parts) {
            DUE.is("\"" + part + "\"", Due.telling(part), -10 - part.length());
        }
    }

    private static void tellEndsTooEarlyAtTheLastByte() {
        DUE.is("400 bytes", Due.telling("person 0" + " ".repeat(392)), -410);
        DUE.is("a word to the end", Due.telling(" ".repeat(394) + "person"), -410);
        DUE.is("another word to the end", Due.telling(" ".repeat(395) + "perso"), -405);
        DUE.is("a number to the end", Due.telling("person" + " ".repeat(393) + "3"), -410);
        DUE.is("a large number to the end", Due.telling("person" + " ".repeat(391) + "100"), -407);
        DUE.is("the last byte", Due.telling("person 3" + " ".repeat(391) + ";"), 1);
        DUE.is("a wrong last byte", Due.telling(" ".repeat(399) + "x"), -409);
    }

    private static void tellOfNoBlanksAndMany() {
        DUE.is("none needed", Due.telling("person0;person0;talk99 0 1;maybe99 1 0;think99 0 3;say99 1 3;move99 1 3;"), 7);
        DUE.is("many", Due.telling("  person  0 ;  person 1  ;   talk   7  0   1   ;  "), 3);
        DUE.is("two NUMBERS need one", Due.telling(TWO + "talk 001;"), -10 - 23);
        DUE.is("two NUMBERS need one", Due.telling(TWO + "talk 10;"), -10 - 25);
        DUE.is("two words need one", Due.telling("personperson 0;"), -10);
    }

    private static void tellOfOtherBytes() {
        for (int b = 0; b < 256; b++) {
            char c = (char) b;
            boolean begins = c >= 'a' && c <= 'z' || c >= '0' && c <= '9' || c == ';' || c == ' ';
            DUE.is("byte " + b + " for a word", Due.telling(c + "person 0;"), c == ' ' ? 1 : -10);
            DUE.is("byte " + b + " for a ;", Due.telling("person 0 " + c), c == ';' ? 1 : c == ' ' ? -20 : -19);
            DUE.is("byte " + b + " behind all", Due.telling("person 0;" + c), c == ' ' ? 1 : -19);
            if (!begins) {
                DUE.is("byte " + b + " in a word", Due.telling("per" + c + "son 0;"), -10);
                DUE.is("byte " + b + " behind a word", Due.telling("person" + c + "0;"), -16);
                DUE.is("byte " + b + " behind a NUMBER", Due.telling("person 0" + c + ";"), -18);
            }
        }
    }

    private static void tellOfWordsThatAreNone() {
        String[] none = {"p", "perso", "persons", "Person", "PERSON", "tal", "talks", "talkk", "mayb", "maybes", "thin",
            "thinks", "sa", "says", "mov", "moves", "a", "z", "aaaaaaaaaaaaaaaaaaaaaaaaaaaaaaaaaaaaaaaaaaaaaaaaaaaaaaaaaaa"};
        for (String word : none) {
            DUE.is(word, Due.telling(TWO + " " + word + " 0 0 1;"), -10 - 19);
        }
        DUE.is("a NUMBER for a word", Due.telling("0;"), -10);
        DUE.is("a ; for a word", Due.telling(TWO + ";"), -10 - 18);
        DUE.is("a word for a NUMBER", Due.telling("person person 0;"), -17);
        DUE.is("a word for a ;", Due.telling("person 0 person 0;"), -19);
        DUE.is("a ; for a NUMBER", Due.telling("person;"), -16);
        DUE.is("a NUMBER for a ;", Due.telling("person 0 0;"), -19);
    }

    private static void tellOfNumbers() {
        String[] good = {"0", "1", "9", "10", "90", "98", "99"};
        for (String d : good) {
            DUE.is("D " + d, Due.telling("person 0;say " + d + " 0 0;"), 2);
        }
        String[] bad = {"00", "01", "09", "000", "010", "099", "100", "101", "110", "999", "1000"};
        for (String d : bad) {
            DUE.is("D " + d, Due.telling("person 0;say " + d + " 0 0;"), -10 - 13);
            DUE.is("A " + d, Due.telling("person 0;say 0 " + d + " 0;"), -10 - 15);
            DUE.is("T " + d, Due.telling("person 0;say 0 0 " + d + ";"), -10 - 17);
            DUE.is("L " + d, Due.telling("person " + d + ";"), -17);
            DUE.is("ahead of all: " + d, Due.telling(d), -10);
        }
    }

    private static void tellOfALargeNumberThatComesRound() {
        String[] round = {"4294967296", "4294967297", "2147483648", "18446744073709551616", "65536", "256",
            "1" + "0".repeat(60), "9".repeat(300)};
        for (String n : round) {
            DUE.is("L " + n, Due.telling("person " + n + ";"), -17);
            DUE.is("D " + n, Due.telling("person 0;say " + n + " 0 0;"), -10 - 13);
        }
    }

    private static void tellOfPlaces() {
        for (int place = 0; place < 4; place++) {
            ThreeVoices x = Due.told("person " + place + ";person 0;move 0 1 " + place + ";");
            DUE.is("person " + place, x.place(0), place);
            DUE.is("move " + place, x.place(1), place);
        }
        DUE.is("person 4", Due.telling("person 4;"), -17);
        DUE.is("person 99", Due.telling("person 99;"), -17);
        DUE.is("move 4", Due.telling("person 0;move 0 0 4;"), -28);
        DUE.is("move 99", Due.telling("person 0;move 0 0 99;"), -28);
    }

    private static void tellOfThings() {
        for (int t = 0; t < 4; t++) {
            ThreeVoices x = Due.told("person 0;person 1;think 0 0 " + t + ";say 0 1 " + t + ";");
            DUE.is("think " + t, x.origins(0, t, 0), 1);
            DUE.is("say " + t, x.voice(1, t, 0), 2);
        }
        DUE.is("think 4", Due.telling("person 0;think 0 0 4;"), -29);
        DUE.is("say 4", Due.telling("person 0;say 0 0 4;"), -27);
        DUE.is("say 99", Due.telling("person 0;say 0 0 99;"), -27);
    }

    private static void tellOfPeopleThatThereAreNot() {
        String[] words = {"talk", "maybe", "think", "say", "move"};
        for (String word : words) {
            int a = 10 + 18 + word.length() + 3;
            DUE.is(word + " of the last one", Due.telling(TWO + word + " 0 1 0;"), 3);
            DUE.is(word + " of one beyond", Due.telling(TWO + word + " 0 2 0;"), -a);
            DUE.is(word + " of 99", Due.telling(TWO + word + " 0 99 0;"), -a);
            DUE.is(word + " of nobody", Due.telling(word + " 0 0 0;"), -10 - word.length() - 3);
        }
        DUE.is("talk to one beyond", Due.telling(TWO + "talk 0 0 2;"), -10 - 27);
        DUE.is("maybe to one beyond", Due.telling(TWO + "maybe 0 0 2;"), -10 - 28);
        DUE.is("one told behind it", Due.telling(TWO + "talk 0 0 2;person 0;"), -10 - 27);
        DUE.is("one told ahead of it", Due.telling(TWO + "person 0;talk 0 0 2;"), 4);
    }

    private static void tellOfOneAndTheSame() {
        DUE.is("talk 0 0", Due.telling(TWO + "talk 0 0 0;"), -10 - 27);
        DUE.is("talk 1 1", Due.telling(TWO + "talk 1 1 1;"), -10 - 27);
        DUE.is("maybe 1 1", Due.telling(TWO + "maybe 0 1 1;"), -10 - 28);
        DUE.is("think 1 1", Due.telling(TWO + "think 0 1 1;"), 3);
        DUE.is("say 0 0", Due.telling(TWO + "say 0 0 0;"), 3);
        DUE.is("move 1 1", Due.telling(TWO + "move 0 1 1;"), 3);
    }

    private static void tellOfDays() {
        DUE.is("the same DAY", Due.telling(TWO + "say 5 0 0;say 5 1 0;"), 4);
        DUE.is("a DAY less", Due.telling(TWO + "say 5 0 0;say 4 1 0;"), -10 - 32);
        DUE.is("DAY 0 behind DAY 1", Due.telling(TWO + "say 1 0 0;say 0 1 0;"), -10 - 32);
        DUE.is("DAY 99 twice", Due.telling(TWO + "say 99 0 0;say 99 1 0;"), 4);
        DUE.is("DAY 98 behind 99", Due.telling(TWO + "say 99 0 0;say 98 1 0;"), -10 - 33);
        DUE.is("DAY 100", Due.telling(TWO + "say 99 0 0;say 100 1 0;"), -10 - 33);
        ThreeVoices x = Due.told(TWO + "say 50 0 0;");
        Due.type(x, TWO + "say 0 0 0;");
        DUE.is("what was told ahead does not count", x.tell(), 3);
        x.days(9);
        Due.type(x, TWO + "say 2 0 0;");
        DUE.is("nor does TODAY", x.tell(), 3);
    }

    private static void tellOfTooManyPeople() {
        DUE.is("eight", Due.telling("person 3;".repeat(8)), 8);
        DUE.is("a ninth", Due.telling("person 3;".repeat(9)), -82);
        DUE.is("a ninth's word alone", Due.telling("person 3;".repeat(8) + "person"), -82);
        DUE.is("a ninth with a fault", Due.telling("person 3;".repeat(8) + "person 4;"), -82);
        DUE.is("a ninth behind EVENTS", Due.telling("person0;".repeat(8) + "say0 0 0; person0;"), -10 - 74);
        DUE.is("eight, then others", Due.telling("person0;".repeat(8) + "say0 7 3;move0 7 3;talk0 7 6;"), 11);
    }

    private static void tellOfTooManyEvents() {
        DUE.is("40", Due.telling("person0;" + "say0 0 0;".repeat(40)), 41);
        String[] words = {"talk", "maybe", "think", "say", "move"};
        for (String word : words) {
            DUE.is("a 41st: " + word, Due.telling("person0;" + "say0 0 0;".repeat(40) + " " + word + "0 0 0;"), -10 - 369);
        }
        DUE.is("a 41st that is no word", Due.telling("person0;" + "say0 0 0;".repeat(40) + "sa"), -10 - 368);
        DUE.is("a person behind 40", Due.telling("person0;" + "say0 0 0;".repeat(40) + "person1;"), 42);
    }

    private static void tellOfTooManyMaybes() {
        DUE.is("six", Due.telling(TWO + "maybe 0 0 1;".repeat(6)), 8);
        DUE.is("a seventh", Due.telling(TWO + "maybe 0 0 1;".repeat(7)), -100);
        DUE.is("a seventh with a fault", Due.telling(TWO + "maybe 0 0 1;".repeat(6) + "maybe 0 0 0;"), -100);
        DUE.is("a seventh's word alone", Due.telling(TWO + "maybe 0 0 1;".repeat(6) + "  maybe"), -102);
        DUE.is("a seventh behind others", Due.telling(TWO + "maybe 0 0 1;say 0 0 0;".repeat(6) + "maybe 0 0 1;"), -10 - 150);
        DUE.is("six and others", Due.telling(TWO + "maybe 0 0 1;".repeat(6) + "talk 0 0 1;think 0 0 1;say 0 0 1;move 0 0 1;"),
            12);
    }

    private static void tellOfTheFirstFaultOfTwo() {
        DUE.is("a wrong NUMBER ahead of a wrong byte", Due.telling("person 4 #"), -17);
        DUE.is("a wrong byte ahead of a wrong word", Due.telling("person # persons"), -17);
        DUE.is("D ahead of A", Due.telling(TWO + "say 5 0 0;say 4 9 9;"), -10 - 32);
        DUE.is("A ahead of B", Due.telling(TWO + "say 5 2 9;"), -10 - 24);
        DUE.is("B ahead of the end", Due.telling(TWO + "say 5 1 9"), -10 - 26);
    }

    private static void tellOfASecondItem() {
        DUE.is("a word in the second", Due.telling("person 0;persom 0;"), -19);
        DUE.is("two ; ", Due.telling("person 0;;"), -19);
        DUE.is("no ; between", Due.telling("person 0 say 0 0 0;"), -19);
    }

    private static void tellOfTheLastOnes() {
        ThreeVoices x = Due.told("person0;".repeat(7) + "person2;");
        DUE.is("the eighth's PLACE", x.place(7), 2);
        ThreeVoices y = Due.told("person0;person0;" + "say0 0 0;".repeat(38) + "say0 0 1;talk9 1 0;");
        long[] last = {0, 9, 1, 0};
        for (int what = 0; what < 4; what++) {
            DUE.is("the 40th EVENT's " + what, y.event(39, what), last[what]);
        }
        ThreeVoices z = Due.told("person0;person1;say0 0 0;" + "maybe0 1 0;".repeat(5) + "maybe 0 0 1;");
        DUE.is("the sixth MAYBE is bit 5", z.origins(1, 0, 32), 1);
        DUE.is("and no other", z.origins(1, 0, 31), 0);
    }

    private static void tellSetsToday() {
        ThreeVoices x = Due.told(TWO + "say 99 0 0;");
        DUE.is("DAY of the last EVENT", x.count(3), 99);
        Due.type(x, TWO);
        x.tell();
        DUE.is("0 without", x.count(3), 0);
        x.days(7);
        Due.type(x, TWO + "say 3 0 0;say 3 1 0;");
        x.tell();
        DUE.is("not the DAY that was", x.count(3), 3);
        DUE.is("EVENTS may be added on it", x.comes(3, 0, 1), 3);
        DUE.is("on it", x.event(2, 1), 3);
    }

    private static void tellForgetsImages() {
        ThreeVoices x = Due.told(TWO + "say 3 0 0;");
        x.keep(0);
        x.keep(1);
        x.mark(5, 0, 0);
        Due.type(x, TWO + "say 3 0 0;");
        DUE.is("the same text", x.tell(), 3);
        DUE.is("back(0)", x.back(0), STATE);
        DUE.is("back(1)", x.back(1), STATE);
        DUE.is("THE TRACE stays", x.trace(), 100001);
        DUE.is("EVENTS stay", x.count(1), 1);
        DUE.is("kept anew", x.keep(1), 1);
        DUE.is("back(1)", x.back(1), 1);
        DUE.is("back(0)", x.back(0), STATE);
    }

    private static void tellOfAFaultChangesNothing() {
        Refused.is(DUE, "tell of half an ITEM", x -> x.tell(), -17);
        ThreeVoices x = Due.told(TWO + "maybe 3 0 1;say 4 0 0;");
        x.keep(1);
        Due.type(x, "person 3;person 3;person 3;think 9 2 0;maybe 9 1 0;maybe 9 1 0;say 8 0 0;");
        Refused.on(DUE, "tell with all but the last ITEM", x, y -> y.tell(), -10 - 67);
        DUE.is("the image stays", x.back(1), 2);
        x.clear();
        Due.type(x, "person 1;");
        DUE.is("cleared and told", x.tell(), 1);
    }

    private static void countOfWhat() {
        int[] bad = {-1, 5, LEAST, MOST};
        for (int what : bad) {
            Refused.is(DUE, "count(" + what + ")", x -> x.count(what), BAD);
        }
    }

    private static void countAtTheLimits() {
        ThreeVoices x = Due.told("person0;".repeat(8) + "maybe 99 0 1;".repeat(6));
        for (int i = 0; i < 34; i++) {
            x.comes(0, 0, 1);
        }
        Due.type(x, " ".repeat(400));
        long[] want = {8, 40, 6, 99, 400};
        for (int what = 0; what < 5; what++) {
            DUE.is("count(" + what + ")", x.count(what), want[what]);
        }
    }
}
