/** The boundary cases of promises 13 to 16, a test each: stands, falls, alone, empty. */
public final class AllStoriesBoundsTest {
    private static final Due DUE = new Due("AllStoriesBoundsTest");
    private static final int BAD = ThreeVoices.BAD, NONE = ThreeVoices.NONE;
    private static final int[] NO_THING = {-1, 4, 5, 32, Integer.MIN_VALUE, Integer.MAX_VALUE};
    private static final String TWO = "person 0;person 1;";
    private static final String FOUR = "person 0;person 1;person 2;person 3;";
    private static final String ALL = "person0;person1;person2;person3;person3;person3;person3;person3;";
    private static final String SAID = "say 3 0 0;say 4 1 0;say 5 2 0;";

    public static void main(String[] args) {
        ofAThingThatIsNone();
        withoutAnyMaybe();
        noneAndNoneWithoutAny();
        standsWithLettersThatDoNoHarm();
        fallsByTheSixth();
        fallsByAllSix();
        fallsTheFewestAheadOfTheLeast();
        fallsTheLeastOfSeveral();
        aloneNone();
        aloneAllSix();
        aloneWhereItIsNoLaw();
        emptyWithoutAnyMaybe();
        emptyAllSix();
        emptyOfEachThing();
        emptyAheadAndBehind();
        emptyWereTheyAlone();
        emptyAfterUndo();
        DUE.end();
    }

    private static void ofAThingThatIsNone() {
        for (int t : NO_THING) {
            Refused.is(DUE, "stands(" + t + ")", x -> x.stands(t), BAD);
            Refused.is(DUE, "falls(" + t + ")", x -> x.falls(t), BAD);
            Refused.is(DUE, "alone(" + t + ")", x -> x.alone(t), BAD);
        }
    }

    private static void withoutAnyMaybe() {
        ThreeVoices x = Due.told(FOUR + SAID + "say 6 0 3;");
        DUE.is("stands", x.stands(0), 1);
        DUE.is("falls", x.falls(0), NONE);
        DUE.is("alone", x.alone(0), 0);
        DUE.is("no LAW: stands", x.stands(3), 0);
        DUE.is("no LAW: falls", x.falls(3), 0);
        DUE.is("no LAW: alone", x.alone(3), 0);
        DUE.is("empty", x.empty(), 0);
    }

    private static void noneAndNoneWithoutAny() {
        ThreeVoices x = Due.told(FOUR + "maybe 0 0 1;maybe 1 1 2;say 2 0 0;");
        DUE.is("none without any", x.falls(0), 0);
        ThreeVoices y = Due.told(FOUR + SAID + "maybe 6 0 1;maybe 6 1 2;");
        DUE.is("none by any: all come later", y.falls(0), NONE);
        DUE.is("stands", y.stands(0), 1);
    }

    private static void standsWithLettersThatDoNoHarm() {
        ThreeVoices x = Due.told(FOUR + "maybe 0 0 1;maybe 0 1 2;maybe 0 2 0;think 1 0 0;maybe 1 0 3;maybe 2 1 2;" + SAID
            + "maybe 6 0 1;");
        DUE.is("stands", x.stands(0), 1);
        DUE.is("falls", x.falls(0), NONE);
        DUE.is("alone", x.alone(0), 0);
    }

    private static void fallsByTheSixth() {
        ThreeVoices x = Due.told(FOUR + "maybe 0 0 1;".repeat(5) + "think 1 0 0;maybe 1 0 2;" + SAID);
        DUE.is("the sixth alone", x.falls(0), 32);
        DUE.is("alone", x.alone(0), 32);
        DUE.is("stands", x.stands(0), 0);
        DUE.is("the first five are empty", x.empty(), 31);
    }

    private static void fallsByAllSix() {
        ThreeVoices x = Due.told(ALL + "think0 0 0;maybe1 0 3;maybe1 3 4;maybe1 4 5;maybe1 5 6;maybe1 6 7;maybe1 7 2;"
            + SAID);
        DUE.is("all six", x.falls(0), 63);
        DUE.is("stands", x.stands(0), 0);
        DUE.is("alone", x.alone(0), 0);
    }

    private static void fallsTheFewestAheadOfTheLeast() {
        // The first and second together (3), or the sixth alone (32).
        ThreeVoices x = Due.told(FOUR + "think 0 0 0;maybe 1 0 3;maybe 1 3 1;maybe 1 3 0;maybe 1 3 0;maybe 1 3 0;"
            + "maybe 2 0 2;" + SAID);
        DUE.is("one is fewer than two", x.falls(0), 32);
        DUE.is("two do, too", x.law(0, 3, 0), NONE);
    }

    private static void fallsTheLeastOfSeveral() {
        ThreeVoices x = Due.told(FOUR + "think 0 0 0;maybe 1 3 0;maybe 1 0 1;maybe 1 0 2;maybe 1 0 1;" + SAID);
        DUE.is("the least", x.falls(0), 2);
        DUE.is("each alone", x.alone(0), 14);
    }

    private static void aloneNone() {
        ThreeVoices x = Due.told(FOUR + "think 0 0 0;maybe 1 0 3;maybe 1 3 1;" + SAID);
        DUE.is("by two together, by none alone", x.alone(0), 0);
        DUE.is("falls", x.falls(0), 3);
    }

    private static void aloneAllSix() {
        ThreeVoices x = Due.told(FOUR + "think 0 0 0;think 0 1 0;think 0 2 0;maybe 1 0 1;maybe 1 0 2;maybe 1 1 0;"
            + "maybe 1 1 2;maybe 1 2 0;maybe 1 2 1;" + SAID);
        DUE.is("each of six", x.alone(0), 63);
        DUE.is("falls", x.falls(0), 1);
    }

    private static void aloneWhereItIsNoLaw() {
        ThreeVoices x = Due.told(FOUR + "think 0 0 0;maybe 1 0 1;maybe 1 0 2;say 3 0 0;say 4 1 0;");
        DUE.is("no LAW by none of them", x.alone(0), 0);
        DUE.is("falls", x.falls(0), 0);
    }

    private static void emptyWithoutAnyMaybe() {
        ThreeVoices x = Due.told(FOUR + "talk 0 0 1;" + SAID);
        DUE.is("no MAYBE ones", x.empty(), 0);
        DUE.is("no EVENTS", Due.told(FOUR).empty(), 0);
    }

    private static void emptyAllSix() {
        ThreeVoices x = Due.told(TWO + "maybe 0 0 1;".repeat(6));
        DUE.is("all six", x.empty(), 63);
        ThreeVoices y = Due.told(TWO + "think 0 0 3;" + "maybe 0 0 1;".repeat(6));
        DUE.is("none", y.empty(), 0);
    }

    private static void emptyOfEachThing() {
        for (int t = 0; t < 4; t++) {
            ThreeVoices x = Due.told(TWO + "think 0 0 " + t + ";maybe 0 0 1;maybe 0 1 0;");
            DUE.is("A HAS THING " + t, x.empty(), 2);
        }
    }

    private static void emptyAheadAndBehind() {
        ThreeVoices x = Due.told(TWO + "maybe 5 0 1;think 5 0 0;maybe 5 0 1;");
        DUE.is("ahead of its thought", x.empty(), 1);
        ThreeVoices y = Due.told("person 0;person 0;say 0 0 2;maybe 0 1 0;");
        DUE.is("what it heard", y.empty(), 0);
        ThreeVoices z = Due.told(TWO + "say 0 0 2;maybe 0 1 0;talk 0 0 1;maybe 0 1 0;");
        DUE.is("what it was told", z.empty(), 1);
    }

    private static void emptyWereTheyAlone() {
        ThreeVoices x = Due.told(FOUR + "think 0 0 0;maybe 0 0 1;maybe 0 1 2;maybe 0 2 3;");
        DUE.is("what another letter brought does not count", x.empty(), 6);
    }

    private static void emptyAfterUndo() {
        ThreeVoices x = Due.told(TWO + "maybe 0 0 1;maybe 0 1 0;");
        DUE.is("two", x.empty(), 3);
        x.undo();
        DUE.is("one", x.empty(), 1);
        x.comes(2, 0, 0);
        x.comes(1, 0, 1);
        DUE.is("one that is not", x.empty(), 1);
    }
}
