/** Promises 17 to 21: hints, hinder, turns, keepAt, chance. */
public final class HintsTest {
    private static final Due DUE = new Due("HintsTest");
    private static final int BAD = ThreeVoices.BAD, NONE = ThreeVoices.NONE;
    private static final String FOUR = "person 0;person 1;person 2;person 3;";

    public static void main(String[] args) {
        hinted();
        hintsOfADay();
        hintsLeast();
        hindered();
        hinderedLeast();
        hinderedMost();
        strangersOriginIsOneMore();
        byTurns();
        turnsOneBehindAnother();
        keeping();
        keepingStill();
        chances();
        chancesOfThoseWithout();
        bad();
        DUE.end();
    }

    private static void hinted() {
        ThreeVoices x = Due.told(FOUR);
        DUE.is("nothing happens", x.hints(0, 0), 7);
        DUE.is("last DAY", x.hints(3, 99), 7);
        ThreeVoices y = Due.told("person 0;person 0;person 0;");
        DUE.is("nobody hears what is written", y.hints(0, 0), 7);
        y.undo();
        ThreeVoices z = Due.told("person 0;person 0;");
        DUE.is("two are too few", z.hints(0, 0), NONE);
        ThreeVoices w = Due.told(FOUR + "say 1 0 0;say 2 1 0;");
        DUE.is("a third", w.hints(0, 3), 4);
        DUE.is("who will say it itself needs none", w.hints(0, 0), 4);
        w.comes(3, 3, 0);
        DUE.is("LAW without", w.hints(0, 3), 0);
    }

    private static void hintsOfADay() {
        ThreeVoices x = Due.told("person 0;person 0;person 1;say 2 0 0;");
        DUE.is("ahead of it", x.hints(0, 2), 6);
        DUE.is("on a day ahead", x.hints(0, 0), 6);
        DUE.is("behind it", x.hints(0, 3), NONE);
        // The HINT of 1 is handed on, so that 2 would have 1 in common with it.
        ThreeVoices y = Due.told("person 0;person 1;person 2;person 3;talk 5 1 2;say 6 0 0;say 6 2 0;");
        DUE.is("a hint of 1 joins 2 with it", y.hints(0, 5), 8);
        DUE.is("behind the TALK", y.hints(0, 6), 2);
        // Who has a VOICE keeps it; who HAS it says whom from.
        ThreeVoices z = Due.told(FOUR + "say 1 0 0;talk 2 0 1;say 3 2 0;");
        DUE.is("1 has it from 0", z.hints(0, 4), 8);
        DUE.is("ahead of that", z.hints(0, 2), 2);
        ThreeVoices m = Due.told(FOUR + "say 1 0 0;maybe 2 0 1;say 3 2 0;");
        DUE.is("MAYBE ones were not", m.hints(0, 4), 2);
    }

    private static void hintsLeast() {
        ThreeVoices x = Due.told(FOUR + "person 3;person 0;person 0;person 0;"
            + "think 0 0 0;think 0 5 0;think 0 6 0;think 0 7 0;talk 0 0 1;talk 0 6 1;talk 0 5 0;talk 0 5 2;talk 0 7 2;"
            + "talk 0 6 3;talk 0 7 3;talk 0 0 5;talk 0 1 5;talk 0 2 5;talk 0 3 5;talk 0 5 6;talk 0 5 7;"
            + "move 0 1 0;move 0 4 1;say 1 4 0;");
        DUE.is("{1, 2} (6) ahead of {0, 3} (9)", x.hints(0, 2), 6);
    }

    private static void hindered() {
        ThreeVoices x = Due.told(FOUR + "say 3 0 0;say 4 1 0;say 5 2 0;");
        DUE.is("no LAW, nobody", x.hinder(1, 0), 0);
        DUE.is("two with one STRANGER", x.hinder(0, 0), 3);
        DUE.is("that DAY's EVENTS are behind", x.hinder(0, 3), 3);
        DUE.is("who has said it has", x.hinder(0, 4), 6);
        DUE.is("one is too few", x.hinder(0, 5), NONE);
        DUE.is("too late", x.hinder(0, 6), NONE);
        DUE.is("last DAY", x.hinder(0, 99), NONE);
        // Telling 3 reaches 0 and 1 by its TALKS.
        ThreeVoices y = Due.told(FOUR + "talk 1 3 0;talk 1 3 1;say 3 0 0;say 4 1 0;say 5 2 0;");
        DUE.is("one who tells on", y.hinder(0, 1), 8);
        DUE.is("behind its TALKS", y.hinder(0, 2), 3);
        // Who HAS it has the STRANGER more.
        ThreeVoices z = Due.told(FOUR + "think 0 0 0;think 0 1 0;think 0 2 0;say 3 0 0;say 4 1 0;say 5 2 0;");
        DUE.is("those that HAVE it", z.hinder(0, 1), 3);
        ThreeVoices m = Due.told(FOUR + "think 0 0 0;maybe 1 0 1;say 3 0 0;say 4 1 0;say 5 2 0;");
        DUE.is("MAYBE ones were not", m.hinder(0, 0), 3);
    }

    private static void hinderedLeast() {
        ThreeVoices x = Due.told(FOUR + "person 0;person 1;talk 1 4 0;talk 1 5 1;say 3 2 0;say 4 1 0;say 5 0 0;");
        DUE.is("of several the least", x.hinder(0, 0), 3);
        DUE.is("of one count the least", x.hinder(0, 2), 3);
        DUE.is("the third said it", x.hinder(0, 4), 3);
        DUE.is("only one left", x.hinder(0, 5), NONE);
    }

    private static void hinderedMost() {
        // Each says it alone at PLACE 3 and keeps to PLACE 2 from then on.
        StringBuilder text = new StringBuilder("person0;".repeat(8));
        for (int p = 0; p < 8; p++) {
            text.append("move1 " + p + " 3;say1 " + p + " 0;move1 " + p + " 2;");
        }
        ThreeVoices x = Due.told(text.toString());
        DUE.is("all but one have to be told", x.hinder(0, 1), 127);
        DUE.is("LAW", x.law(0, 0, 1), 7);
        DUE.is("too late", x.hinder(0, 2), NONE);
    }

    private static void strangersOriginIsOneMore() {
        // 3 has said it from 0 and 1: so 0 and 1, told, stay joined with 3 and are joined with each other.
        ThreeVoices x = Due.told(FOUR + "think 0 0 0;think 0 1 0;talk 0 0 3;talk 0 1 3;say 1 3 0;say 2 0 0;say 2 1 0;say 2 2 0;");
        DUE.is("LAW", x.law(0, 0, 1), 7);
        DUE.is("what they had stays", x.hinder(0, 2), 3);
    }

    private static void byTurns() {
        ThreeVoices x = Due.told(FOUR);
        DUE.is("one hint is too few", x.turns(0, 0, 1), 0);
        DUE.is("two hints are too few", x.turns(0, 0, 2), 0);
        ThreeVoices y = Due.told(FOUR + "say 1 0 0;");
        DUE.is("one has said it: one more is too few", y.turns(0, 2, 1), 0);
        DUE.is("one has said it: two more", y.turns(0, 2, 2), 1);
        ThreeVoices z = Due.told(FOUR + "say 1 0 0;say 2 1 0;say 3 2 0;");
        DUE.is("one told is no harm", z.turns(0, 0, 1), 1);
        DUE.is("a hint ahead of a STRANGER", z.turns(0, 0, 2), 1);
        DUE.is("LAW already", z.turns(0, 4, 2), 1);
        DUE.is("another THING", z.turns(1, 0, 2), 0);
        ThreeVoices m = Due.told("person 0;person 1;person 2;think 0 0 0;maybe 0 0 1;say 1 0 0;say 2 1 0;say 3 2 0;");
        DUE.is("MAYBE ones were not", m.turns(0, 0, 1), 1);
    }

    private static void turnsOneBehindAnother() {
        // 3 tells all on: a HINT for one of them leaves two with the STRANGER.
        ThreeVoices x = Due.told(FOUR + "talk 1 3 0;talk 1 3 1;talk 1 3 2;say 3 0 0;say 4 1 0;say 5 2 0;");
        DUE.is("all from one STRANGER", x.turns(0, 1, 1), 0);
        DUE.is("two HINTS", x.turns(0, 1, 2), 1);
        DUE.is("behind the TALKS", x.turns(0, 2, 1), 1);
        // 2 is the third: it is hinted first, whatever it is told then.
        ThreeVoices y = Due.told("person 0;person 1;person 2;say 1 0 0;say 1 1 0;");
        DUE.is("the first one first", y.turns(0, 2, 1), 1);
        ThreeVoices z = Due.told("person 0;person 1;person 0;say 1 0 0;say 1 1 0;");
        DUE.is("2 has heard 0", z.turns(0, 2, 2), 0);
    }

    private static void keeping() {
        ThreeVoices x = Due.told("person 0;person 0;person 1;person 3;say 1 0 0;say 2 2 1;say 3 3 2;say 4 3 3;");
        DUE.is("where nobody speaks", x.keepAt(1, 0), 2);
        DUE.is("ahead of the first", x.keepAt(1, 1), 2);
        DUE.is("once the first is heard", x.keepAt(1, 2), 0);
        DUE.is("one that speaks itself", x.keepAt(0, 0), 0);
        DUE.is("behind all", x.keepAt(1, 99), 0);
        DUE.is("3 as it came", x.place(3), 3);
        // Three things at 0, two at 1, one at 2, two at 3.
        ThreeVoices y = Due.told("person 0;person 0;person 1;person 2;person 3;say 0 0 0;say 0 0 1;say 0 0 2;"
            + "say 0 2 0;say 0 2 3;say 0 3 1;say 0 4 2;say 0 4 3;");
        DUE.is("the fewest", y.keepAt(1, 0), 2);
        ThreeVoices z = Due.told("person 0;person 0;person 1;think 0 1 0;say 0 0 0;say 0 2 1;");
        DUE.is("what it HAS anyway is no more", z.keepAt(1, 0), 0);
        DUE.is("DAY 1", z.keepAt(1, 1), 0);
    }

    private static void keepingStill() {
        ThreeVoices x = Due.told("person 0;person 0;person 1;move 1 1 1;say 2 0 0;say 3 2 1;move 4 1 0;say 5 0 2;");
        DUE.is("MOVES from then on are none", x.keepAt(1, 1), 2);
        DUE.is("its MOVES alone", x.keepAt(2, 1), 1);
        DUE.is("behind the MOVE", x.keepAt(1, 4), 1);
        DUE.is("MOVES ahead were", x.keepAt(1, 5), 1);
        // Others move to where it keeps.
        ThreeVoices y = Due.told("person 3;person 3;move 0 1 0;say 0 1 0;move 0 1 1;say 0 1 1;move 0 1 2;say 0 1 2;");
        DUE.is("others MOVE on", y.keepAt(0, 0), 3);
        ThreeVoices m = Due.told("person 3;person 0;think 0 1 0;think 0 1 1;maybe 1 1 0;say 2 1 0;");
        DUE.is("MAYBE ones were not", m.keepAt(0, 0), 1);
        ThreeVoices n = Due.told("person 3;person 0;think 0 1 0;maybe 0 1 0;say 1 1 0;");
        DUE.is("MAYBE ones ahead were not", n.keepAt(0, 1), 1);
    }

    private static void fraction(ThreeVoices x, int t, int day, int a, int b, long upper, long lower) {
        String call = "chance(" + t + ", " + day + ", " + a + ", " + b + ")";
        DUE.is(call + " upper", x.chance(t, day, a, b, 0), upper);
        DUE.is(call + " lower", x.chance(t, day, a, b, 1), lower);
    }

    private static void chances() {
        ThreeVoices x = Due.told("person 0;person 0;person 0;");
        fraction(x, 0, 0, 1, 2, 1, 8);
        fraction(x, 0, 0, 2, 4, 1, 8);
        fraction(x, 0, 0, 2, 3, 8, 27);
        fraction(x, 0, 0, 9, 9, 1, 1);
        fraction(x, 0, 0, 0, 9, 0, 1);
        fraction(x, 0, 0, 1, 9, 1, 729);
        ThreeVoices y = Due.told(FOUR);
        fraction(y, 0, 0, 1, 2, 5, 16);
        fraction(y, 3, 99, 6, 9, 16, 27);
        ThreeVoices z = Due.told("person 0;".repeat(8));
        fraction(z, 0, 0, 1, 9, (43046721 - 16777216 - 8 * 2097152 - 28 * 262144) / 3, 43046721 / 3);
        fraction(z, 0, 0, 1, 1, 1, 1);
        ThreeVoices w = Due.told("person 0;person 0;");
        fraction(w, 0, 0, 1, 1, 0, 1);
    }

    private static void chancesOfThoseWithout() {
        ThreeVoices x = Due.told("person 0;person 1;person 2;say 1 0 0;think 2 1 0;");
        DUE.is("ahead of all", x.chance(0, 0, 1, 2, 0), 1);
        // Of those without (1 and 2) ahead of DAY 2; then 2 alone, but 1 has no VOICE.
        fraction(x, 0, 2, 1, 3, 1, 9);
        fraction(x, 0, 3, 1, 3, 0, 1);
        x.comes(3, 1, 0);
        fraction(x, 0, 3, 1, 3, 1, 3);
        ThreeVoices y = Due.told("person 0;person 1;person 2;say 1 0 0;say 2 1 0;say 3 2 0;");
        fraction(y, 0, 9, 1, 3, 1, 1);
        fraction(y, 0, 0, 0, 1, 1, 1);
        ThreeVoices m = Due.told("person 0;person 1;person 2;think 0 0 0;maybe 0 0 1;say 1 0 0;say 2 1 0;say 3 2 0;");
        fraction(m, 0, 0, 0, 1, 1, 1);
    }

    private static void bad() {
        ThreeVoices x = Due.told(FOUR);
        int[][] things = {{-1, 0}, {4, 0}, {0, -1}, {0, 100}, {Integer.MAX_VALUE, 0}, {0, Integer.MIN_VALUE}};
        for (int[] b : things) {
            String with = "(" + b[0] + ", " + b[1] + ")";
            DUE.is("hints" + with, x.hints(b[0], b[1]), BAD);
            DUE.is("hinder" + with, x.hinder(b[0], b[1]), BAD);
            DUE.is("turns" + with, x.turns(b[0], b[1], 1), BAD);
            DUE.is("keepAt" + with, x.keepAt(b[0], b[1]), BAD);
            DUE.is("chance" + with, x.chance(b[0], b[1], 1, 2, 0), BAD);
        }
        DUE.is("turns n 0", x.turns(0, 0, 0), BAD);
        DUE.is("turns n 3", x.turns(0, 0, 3), BAD);
        DUE.is("turns n -1", x.turns(0, 0, -1), BAD);
        DUE.is("keepAt(3, 0)", x.keepAt(3, 0), 0);
        int[][] shares = {{-1, 1, 0}, {0, 0, 0}, {1, 0, 0}, {2, 1, 0}, {9, 8, 1}, {0, 10, 0}, {10, 10, 0}, {0, -1, 0},
            {1, 2, 2}, {1, 2, -1}};
        for (int[] s : shares) {
            DUE.is("chance(0, 0, " + s[0] + ", " + s[1] + ", " + s[2] + ")", x.chance(0, 0, s[0], s[1], s[2]), BAD);
        }
    }
}
