/** Promises 9 to 16: origins, voice, law, place, stands, falls, alone, empty. */
public final class StoryTest {
    private static final Due DUE = new Due("StoryTest");
    private static final int BAD = ThreeVoices.BAD, NONE = ThreeVoices.NONE;

    /** Three that say a THING with ORIGINS of their own: 0 on DAY 3, 1 on 4, 2 on 5. */
    private static final String APART = "person 0;person 1;person 2;say 3 0 0;say 4 1 0;say 5 2 0;";

    /** 0 has it from 0 and 5, 1 from 0 and 6, 2 from 5 and 7, 3 from 6 and 7; 4 does not have it. */
    private static final String CROSSED = "person 0;person 1;person 2;person 3;person 3;person 0;person 0;person 0;"
        + "think 0 0 0;think 0 5 0;think 0 6 0;think 0 7 0;talk 0 0 1;talk 0 6 1;talk 0 5 0;talk 0 5 2;talk 0 7 2;"
        + "talk 0 6 3;talk 0 7 3;";

    public static void main(String[] args) {
        thinking();
        talking();
        saying();
        voices();
        moving();
        sets();
        lawComes();
        theThree();
        badOfAStory();
        lawInAllStories();
        fewest();
        allSix();
        lawByEach();
        carriesNothing();
        badOfStories();
        DUE.end();
    }

    private static void thinking() {
        ThreeVoices x = Due.told("person 0;person 0;person 0;think 0 0 0;think 0 0 0;talk 1 0 1;think 2 1 0;");
        DUE.is("who THINKS", x.origins(0, 0, 0), 1);
        DUE.is("who HAS it has no ORIGIN more", x.origins(1, 0, 0), 1);
        DUE.is("nobody else", x.origins(2, 0, 0), 0);
        DUE.is("no other THING", x.origins(0, 1, 0), 0);
        DUE.is("a thought is no VOICE", x.voice(0, 0, 0), NONE);
    }

    private static void talking() {
        ThreeVoices x = Due.told("person 0;person 0;person 0;talk 0 0 1;think 1 0 0;think 1 0 3;think 2 2 3;"
            + "talk 3 0 1;talk 4 2 1;talk 5 1 2;");
        DUE.is("THING 0", x.origins(1, 0, 0), 1);
        DUE.is("ORIGINS come together", x.origins(1, 3, 0), 5);
        DUE.is("and go on", x.origins(2, 3, 0), 5);
        DUE.is("and go on, each THING", x.origins(2, 0, 0), 1);
        DUE.is("not back", x.origins(0, 3, 0), 1);
        DUE.is("nothing from one without", x.origins(1, 1, 0), 0);
    }

    private static void saying() {
        ThreeVoices x = Due.told("person 0;person 0;person 1;person 0;say 1 0 0;say 2 1 0;think 3 3 1;say 4 0 1;");
        DUE.is("says what nobody told it", x.origins(0, 0, 0), 1);
        DUE.is("one at the PLACE", x.origins(1, 0, 0), 1);
        DUE.is("one elsewhere", x.origins(2, 0, 0), 0);
        DUE.is("one at the PLACE that HAS it", x.origins(3, 1, 0), 9);
        ThreeVoices y = Due.told("person 0;person 0;person 0;think 0 1 0;say 1 0 0;say 2 1 0;");
        DUE.is("what comes back", y.origins(0, 0, 0), 3);
        DUE.is("heard both", y.origins(2, 0, 0), 3);
    }

    private static void voices() {
        ThreeVoices x = Due.told("person 0;person 1;person 1;say 0 0 0;talk 1 1 0;think 2 1 0;talk 3 1 0;say 4 0 0;"
            + "talk 5 0 1;say 6 1 0;");
        DUE.is("the first time counts", x.voice(0, 0, 0), 1);
        DUE.is("ORIGINS go on", x.origins(0, 0, 0), 3);
        DUE.is("ORIGINS as they are then", x.voice(1, 0, 0), 3);
        DUE.is("who said nothing", x.voice(2, 0, 0), NONE);
        DUE.is("but heard it", x.origins(2, 0, 0), 3);
        DUE.is("another THING", x.voice(0, 1, 0), NONE);
        ThreeVoices y = Due.told("person 0;person 1;person 1;think 0 1 0;say 1 0 0;talk 2 1 0;move 3 0 1;say 4 0 0;");
        DUE.is("a second time is heard with all ORIGINS", y.origins(2, 0, 0), 3);
    }

    private static void moving() {
        ThreeVoices x = Due.told("person 0;person 3;move 1 0 3;say 2 0 0;move 3 1 2;say 4 0 1;");
        DUE.is("PLACE", x.place(0), 3);
        DUE.is("PLACE", x.place(1), 2);
        DUE.is("heard where it was then", x.origins(1, 0, 0), 1);
        DUE.is("not when it had gone", x.origins(1, 1, 0), 0);
        DUE.is("place(2)", x.place(2), BAD);
        DUE.is("place(-1)", x.place(-1), BAD);
    }

    private static void sets() {
        ThreeVoices x = Due.told("person 0;person 1;person 2;think 0 0 0;maybe 1 0 1;talk 1 1 2;maybe 2 2 0;maybe 2 0 2;");
        DUE.is("none", x.origins(1, 0, 0), 0);
        DUE.is("the first", x.origins(1, 0, 1), 1);
        DUE.is("the first, handed on", x.origins(2, 0, 1), 1);
        DUE.is("the second", x.origins(2, 0, 2), 0);
        DUE.is("the third", x.origins(2, 0, 4), 1);
        DUE.is("bits that there are not", x.origins(2, 0, 8), 0);
        DUE.is("all bits", x.origins(1, 0, -1), 1);
        DUE.is("all bits but the first", x.origins(1, 0, -2), 0);
        DUE.is("a high bit", x.origins(1, 0, Integer.MIN_VALUE), 0);
    }

    private static void lawComes() {
        ThreeVoices x = Due.told(APART + "say 6 0 1;say 6 1 1;");
        DUE.is("DAY of the third", x.law(0, 0, 0), 5);
        DUE.is("THE THREE", x.law(0, 0, 1), 7);
        DUE.is("two are none", x.law(1, 0, 0), NONE);
        DUE.is("two are none", x.law(1, 0, 1), NONE);
        x.comes(3, 2, 1);
        DUE.is("TODAY's", x.law(1, 0, 0), 6);
        ThreeVoices y = Due.told("person 0;person 1;person 2;person 3;say 0 0 0;say 0 1 0;talk 1 0 2;say 2 2 0;say 3 3 0;");
        DUE.is("two have one in common", y.law(0, 0, 0), 3);
        DUE.is("of several the least", y.law(0, 0, 1), 11);
        ThreeVoices z = Due.told("person 0;person 0;person 0;say 0 0 0;say 0 1 0;say 0 2 0;");
        DUE.is("all heard the first", z.law(0, 0, 0), NONE);
    }

    private static void theThree() {
        ThreeVoices x = Due.told("person 0;person 1;person 2;person 3;person 3;talk 0 4 3;"
            + "say 1 4 0;say 2 2 0;say 3 1 0;say 4 0 0;");
        DUE.is("later VOICES do not count", x.law(0, 0, 1), 22);
        DUE.is("DAY", x.law(0, 0, 0), 3);
        ThreeVoices y = Due.told("person 0;person 1;person 2;person 3;person 1;person 2;think 0 3 0;talk 0 3 0;"
            + "talk 0 3 1;talk 0 3 2;say 1 2 0;say 1 1 0;say 1 0 0;");
        DUE.is("all from one", y.law(0, 0, 1), NONE);
        ThreeVoices z = Due.told("person 0;person 1;person 2;person 3;person 1;think 0 4 0;talk 0 4 0;talk 0 4 3;"
            + "say 1 3 0;say 1 0 0;say 2 1 0;say 3 2 0;");
        DUE.is("of several the least numbers", z.law(0, 0, 1), 7);
        DUE.is("DAY", z.law(0, 0, 0), 3);
        // As 4 comes, {0, 3, 4} and {1, 2, 4} are such: the least one first, though 1 and 2 are lower bits.
        ThreeVoices w = Due.told(CROSSED + "say 1 0 0;say 1 1 0;say 1 2 0;move 1 4 0;say 1 3 0;say 2 4 0;");
        DUE.is("the least one first, then the next", w.law(0, 0, 1), 25);
        DUE.is("DAY", w.law(0, 0, 0), 2);
        w.undo();
        DUE.is("none ahead of the third", w.law(0, 0, 1), NONE);
    }

    private static void badOfAStory() {
        ThreeVoices x = Due.told(APART);
        DUE.is("origins(3, 0, 0)", x.origins(3, 0, 0), BAD);
        DUE.is("origins(-1, 0, 0)", x.origins(-1, 0, 0), BAD);
        DUE.is("origins(0, 4, 0)", x.origins(0, 4, 0), BAD);
        DUE.is("origins(0, -1, 0)", x.origins(0, -1, 0), BAD);
        DUE.is("voice(3, 0, 0)", x.voice(3, 0, 0), BAD);
        DUE.is("voice(-1, 0, 0)", x.voice(-1, 0, 0), BAD);
        DUE.is("voice(0, 4, 0)", x.voice(0, 4, 0), BAD);
        DUE.is("voice(0, -1, 0)", x.voice(0, -1, 0), BAD);
        DUE.is("law(4, 0, 0)", x.law(4, 0, 0), BAD);
        DUE.is("law(-1, 0, 0)", x.law(-1, 0, 0), BAD);
        DUE.is("law(0, 0, 2)", x.law(0, 0, 2), BAD);
        DUE.is("law(0, 0, -1)", x.law(0, 0, -1), BAD);
        DUE.is("law(1, 0, 2) that is none", x.law(1, 0, 2), BAD);
    }

    private static void lawInAllStories() {
        ThreeVoices x = Due.told(APART);
        DUE.is("no MAYBE ones", x.stands(0), 1);
        DUE.is("falls none", x.falls(0), NONE);
        DUE.is("another THING", x.stands(1), 0);
        DUE.is("falls without any", x.falls(1), 0);
        ThreeVoices y = Due.told("person 0;person 1;person 2;think 0 0 0;maybe 1 0 1;say 3 0 0;say 4 1 0;say 5 2 0;");
        DUE.is("a letter joins", y.stands(0), 0);
        DUE.is("falls by it", y.falls(0), 1);
        DUE.is("alone", y.alone(0), 1);
        // Thoughts without VOICES: no LAW, whether the letter was or not.
        ThreeVoices z = Due.told("person 0;person 1;person 2;think 0 0 0;think 0 2 0;talk 0 0 1;maybe 1 2 1;");
        DUE.is("none without any", z.stands(0), 0);
        DUE.is("falls 0", z.falls(0), 0);
        DUE.is("alone 0 where it is no LAW", z.alone(0), 0);
    }

    private static void fewest() {
        // Only the first two letters together bring what 0 has to 2.
        ThreeVoices x = Due.told("person 0;person 1;person 2;person 3;think 0 0 0;maybe 1 0 3;maybe 2 3 2;"
            + "say 3 0 0;say 4 1 0;say 5 2 0;");
        DUE.is("two letters", x.falls(0), 3);
        DUE.is("none alone", x.alone(0), 0);
        DUE.is("does not stand", x.stands(0), 0);
        DUE.is("no LAW with both", x.law(0, 3, 0), NONE);
        DUE.is("LAW with one", x.law(0, 2, 0), 5);
        // One letter (the third) is fewer than two (the first and second).
        x.undo();
        x.undo();
        x.undo();
        x.comes(1, 0, 1);
        x.comes(3, 0, 0);
        x.comes(3, 1, 0);
        x.comes(3, 2, 0);
        DUE.is("the fewest", x.falls(0), 4);
        DUE.is("alone", x.alone(0), 4);
        // Of several the least bits: {1, 2} (6) is ahead of {0, 3} (9).
        ThreeVoices y = Due.told("person 0;person 1;person 2;person 3;person 3;think 0 0 0;maybe 1 0 3;maybe 1 0 4;"
            + "maybe 2 4 1;maybe 2 3 2;move 2 3 0;say 3 0 0;say 4 1 0;say 5 2 0;");
        DUE.is("least bits", y.falls(0), 6);
        ThreeVoices z = Due.told("person 0;person 1;person 2;think 0 0 0;maybe 1 0 2;maybe 1 0 1;"
            + "say 3 0 0;say 4 1 0;say 5 2 0;");
        DUE.is("least bit", z.falls(0), 1);
        DUE.is("each alone", z.alone(0), 3);
    }

    private static void allSix() {
        ThreeVoices x = Due.told("person 0;person 1;person 2;" + "person 3;".repeat(5) + "think 0 0 0;maybe 1 0 3;maybe 1 3 4;"
            + "maybe 1 4 5;maybe 1 5 6;maybe 1 6 7;maybe 1 7 1;say 3 0 0;say 4 1 0;say 5 2 0;");
        DUE.is("all six letters", x.falls(0), 63);
        DUE.is("does not stand", x.stands(0), 0);
        DUE.is("none alone", x.alone(0), 0);
        DUE.is("with five", x.law(0, 62, 0), 5);
        DUE.is("with six", x.law(0, 63, 0), NONE);
        DUE.is("all but the first are empty", x.empty(), 62);
    }

    private static void lawByEach() {
        ThreeVoices x = Due.told("person 0;person 1;person 2;person 3;think 0 0 0;maybe 0 3 0;maybe 1 0 1;maybe 2 1 0;"
            + "maybe 2 0 2;say 3 0 0;say 4 1 0;say 5 2 0;");
        DUE.is("alone", x.alone(0), 10);
        DUE.is("alone of another THING", x.alone(1), 0);
    }

    private static void carriesNothing() {
        ThreeVoices x = Due.told("person 0;person 1;maybe 0 0 1;think 1 0 2;maybe 1 0 1;maybe 2 1 0;say 3 1 3;maybe 4 1 0;");
        DUE.is("empty", x.empty(), 5);
        ThreeVoices y = Due.told("person 0;person 1;think 1 0 2;maybe 1 0 1;talk 1 0 1;maybe 2 1 0;");
        DUE.is("none empty", y.empty(), 0);
        ThreeVoices z = Due.told("person 0;person 1;maybe 1 0 1;think 1 0 2;");
        DUE.is("what A HAS later does not count", z.empty(), 1);
        ThreeVoices w = Due.told("person 0;person 1;person 2;think 0 0 0;maybe 1 0 1;maybe 2 1 2;");
        DUE.is("alone, the first did not come", w.empty(), 2);
    }

    private static void badOfStories() {
        ThreeVoices x = Due.told(APART);
        int[] bad = {-1, 4, Integer.MAX_VALUE, Integer.MIN_VALUE};
        for (int t : bad) {
            DUE.is("stands(" + t + ")", x.stands(t), BAD);
            DUE.is("falls(" + t + ")", x.falls(t), BAD);
            DUE.is("alone(" + t + ")", x.alone(t), BAD);
        }
    }
}
