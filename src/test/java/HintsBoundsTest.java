/** The boundary cases of promises 17 to 19, a test each: hints, hinder, turns. */
public final class HintsBoundsTest {
    private static final Due DUE = new Due("HintsBoundsTest");
    private static final int BAD = ThreeVoices.BAD, NONE = ThreeVoices.NONE;
    private static final int[] NO_THING = {-1, 4, 5, 32, Integer.MIN_VALUE, Integer.MAX_VALUE};
    private static final int[] NO_DAY = {-1, 100, 101, Integer.MIN_VALUE, Integer.MAX_VALUE};
    private static final String FOUR = "person 0;person 1;person 2;person 3;";
    private static final String EIGHT = "person0;person1;person2;person3;person3;person3;person3;person3;";
    private static final String SAID = "say 3 0 0;say 4 1 0;say 5 2 0;";

    public static void main(String[] args) {
        hintsOfAThingThatIsNone();
        hintsOfADayThatIsNone();
        hintsOfTooFew();
        hintsOfNobodyWhereItIsLaw();
        hintsOnTheFirstDay();
        hintsOnTheLastDay();
        hintsBehindAllEvents();
        hintsOnADayWithoutEvents();
        hintsOnToday();
        hintsBehindForty();
        hintsToOneWithAVoice();
        hintsToOneThatHasIt();
        hintsToOneThatSaysItLater();
        hintsThatNobodyHears();
        hintsToldOn();
        hintsTheFewestAheadOfTheLeast();
        hintsTheLeastOfSeveral();
        hintsToTheEighth();
        hintsOfAStoryWithoutMaybes();
        hintsOfOneThing();
        hinderOfAThingThatIsNone();
        hinderOfADayThatIsNone();
        hinderNobody();
        hinderTooLate();
        hinderOnTheFirstDay();
        hinderOnTheLastDay();
        hinderOne();
        hinderSeven();
        hinderTheFewestAheadOfTheLeast();
        hinderTheLeastOfSeveral();
        hinderWithOneStrangerForAll();
        hinderWithAStrangerThatIsNoneOfTheEight();
        hinderWithVoicesThatStay();
        hinderOfAStoryWithoutMaybes();
        turnsOfAThingThatIsNone();
        turnsOfADayThatIsNone();
        turnsOfATooSmallOrLargeNumber();
        turnsOfNobody();
        turnsOneAndTwo();
        turnsWhereItIsLaw();
        turnsOfTheLastWord();
        turnsOnTheFirstAndLastDay();
        turnsOfAllEight();
        turnsToldToOneThatHasIt();
        turnsOfAStoryWithoutMaybes();
        askingChangesNothing();
        DUE.end();
    }

    private static void hintsOfAThingThatIsNone() {
        for (int t : NO_THING) {
            Refused.is(DUE, "hints(" + t + ", 0)", x -> x.hints(t, 0), BAD);
        }
    }

    private static void hintsOfADayThatIsNone() {
        for (int day : NO_DAY) {
            Refused.is(DUE, "hints(0, " + day + ")", x -> x.hints(0, day), BAD);
        }
    }

    private static void hintsOfTooFew() {
        DUE.is("nobody", new ThreeVoices().hints(0, 0), NONE);
        DUE.is("one", Due.told("person 0;").hints(0, 0), NONE);
        DUE.is("two", Due.told("person 0;person 1;").hints(0, 0), NONE);
        DUE.is("three", Due.told("person 0;person 1;person 2;").hints(0, 0), 7);
        DUE.is("eight", Due.told(EIGHT).hints(0, 0), 7);
        DUE.is("all have it from one", Due.told("person0;".repeat(8) + "say 0 7 0;").hints(0, 1), NONE);
    }

    private static void hintsOfNobodyWhereItIsLaw() {
        ThreeVoices x = Due.told(FOUR + SAID);
        int[] days = {0, 3, 5, 6, 99};
        for (int day : days) {
            DUE.is("on DAY " + day, x.hints(0, day), 0);
        }
    }

    private static void hintsOnTheFirstDay() {
        ThreeVoices x = Due.told("person 0;person 0;person 1;person 2;say 0 0 0;");
        DUE.is("ahead of DAY 0's EVENTS, 1 has not heard it", x.hints(0, 0), 6);
        DUE.is("behind them, it has", x.hints(0, 1), 12);
    }

    private static void hintsOnTheLastDay() {
        ThreeVoices x = Due.told("person 0;person 0;person 1;person 2;say 99 0 0;");
        DUE.is("ahead of DAY 99's EVENTS, 1 has not heard it", x.hints(0, 99), 6);
        ThreeVoices y = Due.told("person 0;person 0;person 1;person 2;say 98 0 0;");
        DUE.is("behind those of DAY 98, it has", y.hints(0, 99), 12);
        DUE.is("ahead of them", y.hints(0, 98), 6);
    }

    private static void hintsBehindAllEvents() {
        ThreeVoices x = Due.told("person 0;person 0;person 0;think 1 0 0;talk 1 0 1;say 2 2 1;");
        DUE.is("1 has it from 0, 2 is left", x.hints(0, 3), NONE);
        DUE.is("another THING came from 2", x.hints(1, 3), NONE);
        DUE.is("a third THING", x.hints(2, 3), 7);
    }

    private static void hintsOnADayWithoutEvents() {
        ThreeVoices x = Due.told("person 0;person 0;person 1;person 2;think 4 3 3;say 8 0 0;");
        for (int day = 5; day <= 8; day++) {
            DUE.is("between, on DAY " + day, x.hints(0, day), 6);
        }
        DUE.is("behind", x.hints(0, 9), 12);
    }

    private static void hintsOnToday() {
        ThreeVoices x = Due.told("person 0;person 0;person 1;person 2;");
        x.days(7);
        x.comes(3, 0, 0);
        x.days(2);
        DUE.is("the DAY it came on", x.hints(0, 7), 6);
        DUE.is("the DAY behind it", x.hints(0, 8), 12);
        DUE.is("TODAY", x.hints(0, 9), 12);
    }

    private static void hintsBehindForty() {
        ThreeVoices x = Due.told("person0;person1;person2;" + "say0 0 0;".repeat(37) + "say 8 1 0;");
        x.comes(2, 0, 1);
        x.comes(3, 2, 0);
        DUE.is("40 EVENTS", x.count(1), 40);
        DUE.is("LAW by the last one", x.hints(0, 9), 0);
        DUE.is("hinder behind it", x.hinder(0, 9), NONE);
        DUE.is("hinder ahead of its DAY", x.hinder(0, 8), 6);
        DUE.is("turns behind it", x.turns(1, 99, 1), 0);
        DUE.is("chance behind it", x.chance(2, 99, 1, 2, 1), 8);
    }

    private static void hintsToOneWithAVoice() {
        // 0 said it of its own; what it heard later is no part of its VOICE.
        ThreeVoices x = Due.told(FOUR + "think 0 1 0;say 1 0 0;talk 2 1 0;");
        DUE.is("0 and 1 stay apart", x.hints(0, 3), 6);
        ThreeVoices y = Due.told("person 0;person 1;person 2;think 0 0 0;talk 1 0 1;say 1 1 0;");
        DUE.is("1's VOICE is 0's", y.hints(0, 2), NONE);
    }

    private static void hintsToOneThatHasIt() {
        ThreeVoices x = Due.told(FOUR + "think 0 0 0;talk 0 0 1;say 1 2 0;");
        DUE.is("1 has no ORIGIN of its own", x.hints(0, 1), 9);
        ThreeVoices y = Due.told("person 0;person 1;person 2;think 0 0 0;talk 0 0 1;say 1 2 0;");
        DUE.is("with three", y.hints(0, 1), NONE);
        DUE.is("ahead of the TALK, 1 has one", y.hints(0, 0), 3);
    }

    private static void hintsToOneThatSaysItLater() {
        ThreeVoices x = Due.told("person 0;person 1;person 2;think 0 0 0;talk 5 0 1;say 6 0 0;say 6 1 0;say 6 2 0;");
        DUE.is("1 has written it ahead of the TALK", x.hints(0, 5), 2);
        DUE.is("behind it", x.hints(0, 6), NONE);
    }

    private static void hintsThatNobodyHears() {
        DUE.is("all at one PLACE", Due.told("person 2;person 2;person 2;").hints(0, 0), 7);
        ThreeVoices x = Due.told("person 2;person 2;person 2;say 1 0 0;");
        DUE.is("nobody hears 1 and 2 ahead of what all hear", x.hints(0, 1), 6);
    }

    private static void hintsToldOn() {
        ThreeVoices x = Due.told(FOUR + "talk 5 1 2;say 6 0 0;say 6 2 0;");
        DUE.is("what 1 tells 2 is 1's", x.hints(0, 5), 8);
        DUE.is("behind the TALK", x.hints(0, 6), 2);
        ThreeVoices y = Due.told("person 0;person 1;person 1;person 3;say 5 1 0;say 6 2 0;say 6 0 0;");
        DUE.is("what 1 says later is heard", y.hints(0, 0), 4);
    }

    private static void hintsTheFewestAheadOfTheLeast() {
        // 1 to 5 have it from 0, 6 has said it of its own: the eighth alone (128), or ahead of it two others.
        ThreeVoices x = Due.told("person0;".repeat(6) + "person2;person3;say1 0 0;say1 6 0;");
        DUE.is("one is fewer than two", x.hints(0, 2), 128);
        DUE.is("ahead of all, two VOICES come", x.hints(0, 1), 2);
    }

    private static void hintsTheLeastOfSeveral() {
        ThreeVoices x = Due.told(EIGHT + "say 1 3 0;");
        DUE.is("0 and 1", x.hints(0, 2), 3);
        ThreeVoices y = Due.told(EIGHT + "say 1 0 0;");
        DUE.is("1 and 2", y.hints(0, 2), 6);
    }

    private static void hintsToTheEighth() {
        ThreeVoices x = Due.told("person0;person0;person0;person0;person0;person1;person2;person3;say1 0 0;say1 7 0;say1 6 0;");
        DUE.is("the eighth is at PLACE 3", x.hints(0, 1), 0);
        // 7 has it from 6 ahead of the DAY.
        ThreeVoices y = Due.told("person0;".repeat(5) + "person1;person2;person3;"
            + "think 0 6 0;talk 0 6 7;say 2 7 0;say 2 6 0;say 2 5 0;");
        DUE.is("6 and 7 are joined", y.hints(0, 1), 1);
    }

    private static void hintsOfAStoryWithoutMaybes() {
        ThreeVoices x = Due.told(FOUR + "think 0 0 0;maybe 1 0 1;maybe 1 1 2;" + SAID);
        DUE.is("LAW without any", x.hints(0, 0), 0);
        DUE.is("LAW without any", x.hints(0, 2), 0);
    }

    private static void hintsOfOneThing() {
        ThreeVoices x = Due.told(FOUR + SAID);
        for (int t = 1; t < 4; t++) {
            DUE.is("THING " + t, x.hints(t, 4), 7);
        }
    }

    private static void hinderOfAThingThatIsNone() {
        for (int t : NO_THING) {
            Refused.is(DUE, "hinder(" + t + ", 0)", x -> x.hinder(t, 0), BAD);
        }
    }

    private static void hinderOfADayThatIsNone() {
        for (int day : NO_DAY) {
            Refused.is(DUE, "hinder(0, " + day + ")", x -> x.hinder(0, day), BAD);
        }
    }

    private static void hinderNobody() {
        DUE.is("nobody there", new ThreeVoices().hinder(3, 99), 0);
        DUE.is("no LAW", Due.told(FOUR + "say 3 0 0;say 4 1 0;").hinder(0, 0), 0);
        DUE.is("another THING", Due.told(FOUR + SAID).hinder(1, 4), 0);
    }

    private static void hinderTooLate() {
        ThreeVoices x = Due.told(FOUR + SAID);
        DUE.is("two are to come", x.hinder(0, 4), 6);
        DUE.is("one is to come", x.hinder(0, 5), NONE);
        DUE.is("LAW already", x.hinder(0, 6), NONE);
        DUE.is("LAW already", x.hinder(0, 99), NONE);
    }

    private static void hinderOnTheFirstDay() {
        ThreeVoices x = Due.told(FOUR + "say 0 0 0;say 0 1 0;say 0 2 0;");
        DUE.is("ahead of DAY 0's EVENTS", x.hinder(0, 0), 3);
        DUE.is("behind them", x.hinder(0, 1), NONE);
    }

    private static void hinderOnTheLastDay() {
        ThreeVoices x = Due.told(FOUR + "say 99 0 0;say 99 1 0;say 99 2 0;");
        DUE.is("ahead of DAY 99's EVENTS", x.hinder(0, 99), 3);
        ThreeVoices y = Due.told(FOUR + "say 98 0 0;say 98 1 0;say 98 2 0;");
        DUE.is("behind those of DAY 98", y.hinder(0, 99), NONE);
        DUE.is("ahead of them", y.hinder(0, 98), 3);
    }

    private static void hinderOne() {
        ThreeVoices x = Due.told(FOUR + "talk 1 3 1;talk 1 3 2;" + SAID);
        DUE.is("one that tells two", x.hinder(0, 1), 8);
        ThreeVoices y = Due.told(FOUR + "talk 1 0 1;" + SAID);
        DUE.is("one that tells another", y.hinder(0, 1), 1);
        DUE.is("behind the TALK", y.hinder(0, 2), 3);
    }

    private static void hinderSeven() {
        StringBuilder text = new StringBuilder("person0;".repeat(8));
        for (int p = 0; p < 8; p++) {
            text.append("move9 " + p + " 3;say9 " + p + " 0;move9 " + p + " 2;");
        }
        ThreeVoices x = Due.told(text.toString());
        DUE.is("all but the eighth", x.hinder(0, 9), 127);
        DUE.is("LAW", x.law(0, 0, 0), 9);
    }

    private static void hinderTheFewestAheadOfTheLeast() {
        ThreeVoices x = Due.told(EIGHT + "talk 1 7 0;talk 1 7 1;" + SAID);
        DUE.is("the eighth (128) ahead of 0 and 1 (3)", x.hinder(0, 1), 128);
    }

    private static void hinderTheLeastOfSeveral() {
        DUE.is("0 and 1", Due.told(FOUR + SAID).hinder(0, 0), 3);
        ThreeVoices x = Due.told(FOUR + "talk 1 2 0;talk 1 2 1;talk 1 3 0;talk 1 3 1;" + SAID);
        DUE.is("2 ahead of 3", x.hinder(0, 1), 4);
    }

    private static void hinderWithOneStrangerForAll() {
        // Were there a STRANGER for each, nobody would have one in common.
        ThreeVoices x = Due.told("person 1;person 2;person 3;" + SAID);
        DUE.is("two told by one", x.hinder(0, 0), 3);
    }

    private static void hinderWithAStrangerThatIsNoneOfTheEight() {
        ThreeVoices x = Due.told("person0;".repeat(5) + "person1;person2;person3;say 1 5 0;say 2 6 0;say 3 7 0;");
        DUE.is("one told is not joined with the eighth", x.hinder(0, 0), 96);
        DUE.is("behind the first", x.hinder(0, 2), 192);
    }

    private static void hinderWithVoicesThatStay() {
        ThreeVoices x = Due.told(FOUR + "say 1 0 0;say 1 1 0;say 9 0 0;say 9 1 0;say 9 2 0;");
        DUE.is("those that have said it keep their VOICES", x.hinder(0, 2), NONE);
        DUE.is("ahead of that", x.hinder(0, 1), 3);
    }

    private static void hinderOfAStoryWithoutMaybes() {
        ThreeVoices x = Due.told(FOUR + "think 0 0 0;maybe 1 0 1;" + SAID);
        DUE.is("LAW without", x.hinder(0, 0), 3);
        DUE.is("behind it", x.hinder(0, 2), 3);
    }

    private static void turnsOfAThingThatIsNone() {
        for (int t : NO_THING) {
            Refused.is(DUE, "turns(" + t + ", 0, 1)", x -> x.turns(t, 0, 1), BAD);
        }
    }

    private static void turnsOfADayThatIsNone() {
        for (int day : NO_DAY) {
            Refused.is(DUE, "turns(0, " + day + ", 2)", x -> x.turns(0, day, 2), BAD);
        }
    }

    private static void turnsOfATooSmallOrLargeNumber() {
        int[] bad = {0, 3, 4, -1, -2, Integer.MIN_VALUE, Integer.MAX_VALUE};
        for (int n : bad) {
            Refused.is(DUE, "turns(0, 0, " + n + ")", x -> x.turns(0, 0, n), BAD);
        }
    }

    private static void turnsOfNobody() {
        ThreeVoices x = new ThreeVoices();
        DUE.is("n 1", x.turns(0, 0, 1), 0);
        DUE.is("n 2", x.turns(0, 99, 2), 0);
        DUE.is("one", Due.told("person 0;").turns(0, 0, 2), 0);
        DUE.is("two", Due.told("person 0;person 1;").turns(0, 0, 2), 0);
        DUE.is("three", Due.told("person 0;person 1;person 2;").turns(0, 0, 2), 0);
    }

    private static void turnsOneAndTwo() {
        ThreeVoices x = Due.told(FOUR + "say 1 0 0;");
        DUE.is("one HINT makes two", x.turns(0, 2, 1), 0);
        DUE.is("two HINTS make three", x.turns(0, 2, 2), 1);
        ThreeVoices y = Due.told(FOUR + "say 1 0 0;say 1 1 0;");
        DUE.is("one HINT makes three", y.turns(0, 2, 1), 1);
        ThreeVoices z = Due.told("person 0;person 1;person 2;say 1 0 0;");
        DUE.is("of two that are left one is told", z.turns(0, 2, 2), 1);
    }

    private static void turnsWhereItIsLaw() {
        ThreeVoices x = Due.told(FOUR + SAID);
        DUE.is("LAW already", x.turns(0, 6, 1), 1);
        DUE.is("LAW already", x.turns(0, 99, 2), 1);
        DUE.is("no VOICE of another THING", x.turns(3, 99, 2), 0);
    }

    private static void turnsOfTheLastWord() {
        // 3 tells all on: with one HINT the other two are joined by the STRANGER, with two they are not.
        ThreeVoices x = Due.told(FOUR + "talk 1 3 0;talk 1 3 1;talk 1 3 2;" + SAID);
        DUE.is("he who does not want it has the last word", x.turns(0, 1, 1), 0);
        DUE.is("two are written first", x.turns(0, 1, 2), 1);
    }

    private static void turnsOnTheFirstAndLastDay() {
        ThreeVoices x = Due.told("person 0;person 0;person 1;say 0 0 0;say 0 2 0;");
        DUE.is("ahead of DAY 0's EVENTS, 1 has not heard it", x.turns(0, 0, 1), 1);
        DUE.is("behind them", x.turns(0, 1, 2), 0);
        ThreeVoices y = Due.told("person 0;person 0;person 1;say 99 0 0;say 99 2 0;");
        DUE.is("ahead of DAY 99's EVENTS", y.turns(0, 99, 1), 1);
        ThreeVoices z = Due.told("person 0;person 0;person 1;say 98 0 0;say 98 2 0;");
        DUE.is("behind those of DAY 98", z.turns(0, 99, 2), 0);
    }

    private static void turnsOfAllEight() {
        ThreeVoices x = Due.told(EIGHT + "say 1 0 0;");
        DUE.is("n 1", x.turns(0, 2, 1), 0);
        DUE.is("n 2", x.turns(0, 2, 2), 1);
        DUE.is("none has said it", x.turns(1, 2, 2), 0);
        ThreeVoices y = Due.told("person0;".repeat(7) + "person1;say1 0 0;say1 1 0;say1 2 0;say 2 7 0;");
        DUE.is("one is left, the eighth has said it", y.turns(0, 2, 2), 0);
        ThreeVoices z = Due.told("person0;".repeat(6) + "person2;person1;say1 0 0;say 1 6 0;");
        DUE.is("the eighth alone is left", z.turns(0, 2, 1), 1);
    }

    private static void turnsToldToOneThatHasIt() {
        ThreeVoices x = Due.told(FOUR + "person 3;think 0 0 0;think 0 1 0;think 0 2 0;" + SAID);
        DUE.is("two told of three, two written ahead of that", x.turns(0, 1, 2), 1);
        DUE.is("one told", x.turns(0, 1, 1), 1);
        ThreeVoices y = Due.told("person 0;person 1;person 2;think 0 0 0;think 0 1 0;think 0 2 0;" + SAID);
        DUE.is("one told of three that HAVE it", y.turns(0, 1, 1), 1);
    }

    private static void turnsOfAStoryWithoutMaybes() {
        ThreeVoices x = Due.told(FOUR + "think 0 0 0;maybe 1 0 1;maybe 1 0 2;" + SAID);
        DUE.is("LAW without any", x.turns(0, 0, 1), 1);
        DUE.is("LAW without any", x.turns(0, 2, 1), 1);
    }

    private static void askingChangesNothing() {
        for (int t = 0; t < 4; t++) {
            int thing = t;
            ThreeVoices y = Due.told(FOUR + "think 0 0 0;maybe 1 0 1;" + SAID);
            long hints = y.hints(t, 4);
            long hinder = y.hinder(t, 4);
            long turns = y.turns(t, 4, 2);
            Refused.on(DUE, "hints", y, x -> x.hints(thing, 4), hints);
            Refused.on(DUE, "hinder", y, x -> x.hinder(thing, 4), hinder);
            Refused.on(DUE, "turns", y, x -> x.turns(thing, 4, 2), turns);
        }
    }
}
