/** The boundary cases of promises 20 and 21, a test each: keepAt, chance. */
public final class KeepAndChanceBoundsTest {
    private static final Due DUE = new Due("KeepAndChanceBoundsTest");
    private static final int BAD = ThreeVoices.BAD;
    private static final int LEAST = Integer.MIN_VALUE, MOST = Integer.MAX_VALUE;
    private static final int[] NO_THING = {-1, 4, 5, 32, LEAST, MOST};
    private static final int[] NO_DAY = {-1, 100, 101, LEAST, MOST};
    private static final String FOUR = "person 0;person 1;person 2;person 3;";
    private static final String SAID = "say 3 0 0;say 4 1 0;say 5 2 0;";

    public static void main(String[] args) {
        keepOfOneThatThereIsNot();
        keepOnADayThatIsNone();
        keepWhereNothingIsSaid();
        keepWhereAllIsSaid();
        keepWhereThreeOfFourAreSaid();
        keepAtTheLastPlace();
        keepOnTheFirstDay();
        keepOnTheLastDay();
        keepOfMovesOnTheDay();
        keepOfMovesOfOthersAhead();
        keepOfTheEighth();
        keepOfThingsItHasAnyhow();
        keepOfAStoryWithoutMaybes();
        keepChangesNothing();
        chanceOfAThingThatIsNone();
        chanceOfADayThatIsNone();
        chanceOfAnAThatIsNone();
        chanceOfABThatIsNone();
        chanceOfAnAAboveB();
        chanceOfAWhatThatIsNone();
        chanceOfZero();
        chanceOfOne();
        chanceOfNobody();
        chanceOfTooFew();
        chanceOfExactlyThree();
        chanceOfAllEight();
        chanceInLeastTerms();
        chanceWhereItIsLaw();
        chanceOfThoseThatHaveIt();
        chanceWhereAllHaveIt();
        chanceOnTheFirstDay();
        chanceOnTheLastDay();
        chanceOfAStoryWithoutMaybes();
        chanceChangesNothing();
        DUE.end();
    }

    private static void keepOfOneThatThereIsNot() {
        int[] bad = {-1, 3, 8, 32, LEAST, MOST};
        for (int p : bad) {
            Refused.is(DUE, "keepAt(" + p + ", 0)", x -> x.keepAt(p, 0), BAD);
        }
        DUE.is("nobody", new ThreeVoices().keepAt(0, 0), BAD);
        DUE.is("a ninth", Due.told("person0;".repeat(8)).keepAt(8, 0), BAD);
    }

    private static void keepOnADayThatIsNone() {
        for (int day : NO_DAY) {
            Refused.is(DUE, "keepAt(0, " + day + ")", x -> x.keepAt(0, day), BAD);
        }
    }

    private static void keepWhereNothingIsSaid() {
        ThreeVoices x = Due.told(FOUR + "think 0 3 0;think 0 3 1;");
        for (int p = 0; p < 4; p++) {
            DUE.is("of several the least", x.keepAt(p, 0), 0);
        }
    }

    private static void keepWhereAllIsSaid() {
        ThreeVoices x = Due.told(FOUR + "person 3;think 0 0 0;think 0 0 1;think 0 0 2;think 0 0 3;talk 0 0 4;say 1 1 0;");
        DUE.is("all four at each PLACE", x.keepAt(4, 0), 0);
        DUE.is("all four ahead", x.keepAt(4, 1), 0);
    }

    private static void keepWhereThreeOfFourAreSaid() {
        ThreeVoices x = Due.told("person 0;" + FOUR + "say 0 1 0;say 0 1 1;say 0 1 2;say 0 1 3;say 0 2 0;say 0 2 1;say 0 2 2;"
            + "say 0 3 0;say 0 3 1;say 0 3 3;say 0 4 0;say 0 4 1;say 0 4 2;say 0 4 3;");
        DUE.is("three are fewer than four", x.keepAt(0, 0), 1);
    }

    private static void keepAtTheLastPlace() {
        ThreeVoices x = Due.told("person 0;person 0;person 1;person 2;person 3;say 0 1 0;say 0 2 0;say 0 3 0;");
        DUE.is("the last", x.keepAt(0, 0), 3);
        x.comes(3, 4, 0);
        DUE.is("one at each", x.keepAt(0, 0), 0);
        x.comes(3, 1, 1);
        DUE.is("two at the first", x.keepAt(0, 0), 1);
    }

    private static void keepOnTheFirstDay() {
        ThreeVoices x = Due.told("person 0;person 0;say 0 1 0;");
        DUE.is("ahead of DAY 0's EVENTS", x.keepAt(0, 0), 1);
        DUE.is("behind them", x.keepAt(0, 1), 0);
    }

    private static void keepOnTheLastDay() {
        ThreeVoices x = Due.told("person 0;person 0;say 99 1 0;");
        DUE.is("ahead of DAY 99's EVENTS", x.keepAt(0, 99), 1);
        ThreeVoices y = Due.told("person 0;person 0;say 98 1 0;");
        DUE.is("behind those of DAY 98", y.keepAt(0, 99), 0);
    }

    private static void keepOfMovesOnTheDay() {
        ThreeVoices x = Due.told("person 3;person 0;person 1;move 5 0 0;say 5 1 0;say 5 2 1;");
        DUE.is("a MOVE on the DAY is none", x.keepAt(0, 5), 2);
        DUE.is("nor is one later", x.keepAt(0, 4), 2);
        DUE.is("behind all", x.keepAt(0, 6), 0);
        ThreeVoices y = Due.told("person 1;person 0;move 4 0 0;say 5 1 0;");
        DUE.is("it keeps where it is to keep, not where it went", y.keepAt(0, 5), 1);
    }

    private static void keepOfMovesOfOthersAhead() {
        ThreeVoices x = Due.told("person 0;person 0;move 1 1 2;say 5 1 0;");
        DUE.is("1 speaks at 2", x.keepAt(0, 3), 0);
        ThreeVoices y = Due.told("person 0;person 2;move 1 1 0;say 5 1 0;");
        DUE.is("1 speaks at 0", y.keepAt(0, 2), 1);
        ThreeVoices z = Due.told("person 0;person 2;move 5 1 0;say 5 1 0;");
        DUE.is("others MOVE from then on", z.keepAt(0, 0), 1);
    }

    private static void keepOfTheEighth() {
        ThreeVoices x = Due.told("person0;".repeat(7) + "person3;say 3 6 0;move 3 7 0;say 4 5 1;");
        DUE.is("not at 0", x.keepAt(7, 0), 1);
        DUE.is("its MOVE ahead", x.keepAt(7, 4), 1);
        DUE.is("the seventh speaks itself", x.keepAt(6, 4), 1);
    }

    private static void keepOfThingsItHasAnyhow() {
        ThreeVoices x = Due.told("person 0;person 0;person 1;think 0 0 0;say 1 1 0;say 1 2 1;");
        DUE.is("THING 0 is not one more", x.keepAt(0, 0), 0);
        ThreeVoices y = Due.told("person 0;person 0;person 1;say 1 1 0;say 1 2 1;talk 2 1 0;");
        DUE.is("it is told THING 0 later", y.keepAt(0, 0), 0);
    }

    private static void keepOfAStoryWithoutMaybes() {
        ThreeVoices x = Due.told("person 0;person 0;person 1;think 0 1 0;maybe 0 1 0;say 1 1 0;");
        DUE.is("a letter was none", x.keepAt(0, 0), 1);
        DUE.is("nor one ahead", x.keepAt(0, 1), 1);
    }

    private static void keepChangesNothing() {
        ThreeVoices x = Due.told("person 0;person 0;move 1 0 2;say 3 1 2;maybe 3 0 1;");
        Refused.on(DUE, "keepAt(0, 0)", x, y -> y.keepAt(0, 0), 1);
        DUE.is("PLACE", x.place(0), 2);
    }

    private static void chanceOfAThingThatIsNone() {
        for (int t : NO_THING) {
            Refused.is(DUE, "chance(" + t + ", 0, 1, 2, 0)", x -> x.chance(t, 0, 1, 2, 0), BAD);
        }
    }

    private static void chanceOfADayThatIsNone() {
        for (int day : NO_DAY) {
            Refused.is(DUE, "chance(0, " + day + ", 1, 2, 1)", x -> x.chance(0, day, 1, 2, 1), BAD);
        }
    }

    private static void chanceOfAnAThatIsNone() {
        int[] bad = {-1, 10, LEAST, MOST};
        for (int a : bad) {
            Refused.is(DUE, "chance(0, 0, " + a + ", 9, 0)", x -> x.chance(0, 0, a, 9, 0), BAD);
        }
    }

    private static void chanceOfABThatIsNone() {
        int[] bad = {0, -1, 10, 11, LEAST, MOST};
        for (int b : bad) {
            Refused.is(DUE, "chance(0, 0, 0, " + b + ", 0)", x -> x.chance(0, 0, 0, b, 0), BAD);
            Refused.is(DUE, "chance(0, 0, 1, " + b + ", 1)", x -> x.chance(0, 0, 1, b, 1), BAD);
        }
        DUE.is("both beyond", new ThreeVoices().chance(0, 0, 10, 10, 0), BAD);
        DUE.is("both 0", new ThreeVoices().chance(0, 0, 0, 0, 0), BAD);
        DUE.is("both below", new ThreeVoices().chance(0, 0, -1, -1, 0), BAD);
    }

    private static void chanceOfAnAAboveB() {
        for (int b = 1; b < 9; b++) {
            int some = b;
            Refused.is(DUE, "chance(0, 0, " + (b + 1) + ", " + b + ", 0)", x -> x.chance(0, 0, some + 1, some, 0), BAD);
            DUE.is("9 in " + b, new ThreeVoices().chance(0, 0, 9, b, 1), BAD);
        }
    }

    private static void chanceOfAWhatThatIsNone() {
        int[] bad = {-1, 2, LEAST, MOST};
        for (int what : bad) {
            Refused.is(DUE, "chance(0, 0, 1, 2, " + what + ")", x -> x.chance(0, 0, 1, 2, what), BAD);
        }
    }

    private static void fraction(ThreeVoices x, int day, int a, int b, long upper, long lower) {
        String call = "chance(0, " + day + ", " + a + ", " + b + ")";
        DUE.is(call + " upper", x.chance(0, day, a, b, 0), upper);
        DUE.is(call + " lower", x.chance(0, day, a, b, 1), lower);
    }

    private static void chanceOfZero() {
        ThreeVoices x = Due.told(FOUR);
        ThreeVoices law = Due.told(FOUR + SAID);
        for (int b = 1; b <= 9; b++) {
            fraction(x, 0, 0, b, 0, 1);
            fraction(law, 0, 0, b, 1, 1);
        }
    }

    private static void chanceOfOne() {
        ThreeVoices x = Due.told(FOUR);
        ThreeVoices two = Due.told("person 0;person 1;");
        for (int b = 1; b <= 9; b++) {
            fraction(x, 0, b, b, 1, 1);
            fraction(two, 0, b, b, 0, 1);
        }
        ThreeVoices joined = Due.told(FOUR + "talk 1 0 1;talk 1 0 2;talk 1 0 3;" + SAID);
        fraction(joined, 1, 9, 9, 1, 1);
        fraction(joined, 2, 9, 9, 1, 1);
    }

    private static void chanceOfNobody() {
        ThreeVoices x = new ThreeVoices();
        fraction(x, 0, 1, 2, 0, 1);
        fraction(x, 99, 9, 9, 0, 1);
    }

    private static void chanceOfTooFew() {
        fraction(Due.told("person 0;"), 0, 1, 2, 0, 1);
        fraction(Due.told("person 0;person 1;"), 0, 8, 9, 0, 1);
    }

    private static void chanceOfExactlyThree() {
        ThreeVoices x = Due.told("person 0;person 0;person 0;");
        fraction(x, 0, 1, 9, 1, 729);
        fraction(x, 0, 8, 9, 512, 729);
        fraction(x, 99, 3, 9, 1, 27);
    }

    private static void chanceOfAllEight() {
        ThreeVoices x = Due.told("person0;".repeat(8));
        fraction(x, 0, 9, 9, 1, 1);
        fraction(x, 0, 1, 2, 256 - 1 - 8 - 28, 256);
        // Two at most of eight, of 7 to the 8th each in 8: 1 + 8 * 7 + 28 * 49 of 8 to the 8th are none.
        fraction(x, 0, 7, 8, 16777216 - 1 - 56 - 1372, 16777216);
    }

    private static void chanceInLeastTerms() {
        ThreeVoices x = Due.told("person 0;person 0;person 0;");
        fraction(x, 0, 2, 4, 1, 8);
        fraction(x, 0, 6, 9, 8, 27);
        fraction(x, 0, 4, 6, 8, 27);
        fraction(x, 0, 6, 8, 27, 64);
    }

    private static void chanceWhereItIsLaw() {
        ThreeVoices x = Due.told(FOUR + SAID);
        fraction(x, 6, 1, 9, 1, 1);
        fraction(x, 99, 0, 1, 1, 1);
        // Nothing that one of them thinks ahead of it joins two of them.
        fraction(x, 0, 5, 7, 1, 1);
    }

    private static void chanceOfThoseThatHaveIt() {
        ThreeVoices x = Due.told("person 0;person 1;person 2;think 0 0 0;");
        fraction(x, 1, 1, 2, 0, 1);
        fraction(x, 0, 1, 2, 1, 8);
        ThreeVoices y = Due.told(FOUR + "think 0 0 0;");
        fraction(y, 1, 1, 2, 1, 8);
    }

    private static void chanceWhereAllHaveIt() {
        ThreeVoices x = Due.told("person 0;person 0;person 0;person 0;say 0 0 0;");
        fraction(x, 1, 1, 2, 0, 1);
        ThreeVoices y = Due.told("person 0;person 1;person 2;think 0 0 0;think 0 1 0;think 0 2 0;" + SAID);
        fraction(y, 1, 1, 2, 1, 1);
    }

    private static void chanceOnTheFirstDay() {
        ThreeVoices x = Due.told("person 0;person 0;person 1;say 0 0 0;");
        fraction(x, 0, 1, 3, 1, 9);
        fraction(x, 1, 1, 3, 0, 1);
    }

    private static void chanceOnTheLastDay() {
        ThreeVoices x = Due.told("person 0;person 0;person 1;say 99 0 0;");
        fraction(x, 99, 1, 3, 1, 9);
        ThreeVoices y = Due.told("person 0;person 0;person 1;say 98 0 0;");
        fraction(y, 99, 1, 3, 0, 1);
        fraction(y, 98, 1, 3, 1, 9);
    }

    private static void chanceOfAStoryWithoutMaybes() {
        ThreeVoices x = Due.told("person 0;person 1;person 2;say 0 0 0;maybe 0 0 1;");
        fraction(x, 1, 1, 2, 1, 4);
    }

    private static void chanceChangesNothing() {
        ThreeVoices x = Due.told(FOUR + "think 0 0 2;maybe 1 0 1;say 3 0 2;");
        Refused.on(DUE, "chance", x, y -> y.chance(2, 0, 1, 2, 1), 2);
    }
}
