/** The boundary cases of promises 9 to 12, a test each: origins, voice, law, place. */
public final class StoryBoundsTest {
    private static final Due DUE = new Due("StoryBoundsTest");
    private static final int BAD = ThreeVoices.BAD, NONE = ThreeVoices.NONE;
    private static final int LEAST = Integer.MIN_VALUE, MOST = Integer.MAX_VALUE;
    private static final int[] NO_PERSON = {-1, 3, 8, 32, LEAST, MOST};
    private static final int[] NO_THING = {-1, 4, 5, 32, LEAST, MOST};
    private static final String TWO = "person 0;person 1;";
    private static final String FOUR = "person 0;person 1;person 2;person 3;";
    private static final String ALL = "person0;person1;person2;person3;person3;person3;person3;person3;";
    private static final String SAID = "say 3 0 0;say 4 1 0;say 5 2 0;";

    public static void main(String[] args) {
        originsOfOneThatThereIsNot();
        originsOfAThingThatIsNone();
        originsOfNone();
        originsOfAllEight();
        originsOfEachThing();
        thinkOfOneThatHasIt();
        talkOfOneThatDoesNotHaveIt();
        talkToOneThatHasIt();
        maybeToOneThatHasIt();
        sayOfOneThatDoesNotHaveIt();
        sayOfOneThatHasIt();
        sayHeardByNobody();
        sayHeardByAllSeven();
        sayHeardWhereItIsThen();
        setOfNone();
        setOfAll();
        setOfThoseThatThereAreNot();
        setWithoutAnyMaybe();
        setAfterUndo();
        voiceOfOneThatThereIsNot();
        voiceOfAThingThatIsNone();
        voiceOfNone();
        voiceOfTheFirstTime();
        voiceOfAllEight();
        voiceOfASet();
        lawOfAThingThatIsNone();
        lawOfAWhatThatIsNone();
        lawOfNoVoices();
        lawOfTwo();
        lawOfThreeOnOneDay();
        lawOnTheFirstDay();
        lawOnTheLastDay();
        lawOfPairsThatAreJoined();
        lawStaysWhateverComes();
        lawOfTheLastThree();
        lawOfVoicesThatComeLater();
        lawTakenBack();
        placeOfOneThatThereIsNot();
        placeWithoutAMove();
        placeOfTheLastMove();
        placeOfTheEighth();
        DUE.end();
    }

    private static void originsOfOneThatThereIsNot() {
        for (int p : NO_PERSON) {
            Refused.is(DUE, "origins(" + p + ", 0, 0)", x -> x.origins(p, 0, 0), BAD);
        }
        DUE.is("a ninth", Due.told(ALL).origins(8, 0, 0), BAD);
        DUE.is("the eighth", Due.told(ALL).origins(7, 0, 0), 0);
    }

    private static void originsOfAThingThatIsNone() {
        for (int t : NO_THING) {
            Refused.is(DUE, "origins(0, " + t + ", 0)", x -> x.origins(0, t, 0), BAD);
        }
    }

    private static void originsOfNone() {
        ThreeVoices x = Due.told(TWO);
        for (int t = 0; t < 4; t++) {
            DUE.is("nothing has come", x.origins(1, t, 0), 0);
        }
    }

    private static void originsOfAllEight() {
        StringBuilder text = new StringBuilder("person0;".repeat(8));
        for (int p = 0; p < 8; p++) {
            text.append("think0 " + p + " 3;");
        }
        for (int p = 0; p < 7; p++) {
            text.append("talk0 " + p + " 7;");
        }
        ThreeVoices x = Due.told(text.toString());
        DUE.is("all eight", x.origins(7, 3, 0), 255);
        DUE.is("one", x.origins(6, 3, 0), 64);
    }

    private static void originsOfEachThing() {
        ThreeVoices x = Due.told(TWO + "think 0 0 0;think 0 1 1;think 0 0 2;think 0 1 3;talk 1 0 1;talk 2 1 0;");
        long[] want = {1, 2, 1, 2};
        for (int t = 0; t < 4; t++) {
            DUE.is("THING " + t, x.origins(0, t, 0), want[t]);
            DUE.is("THING " + t, x.origins(1, t, 0), want[t]);
        }
    }

    private static void thinkOfOneThatHasIt() {
        ThreeVoices x = Due.told(TWO + "think 0 0 0;talk 0 0 1;think 0 1 0;think 0 0 0;");
        DUE.is("from another", x.origins(1, 0, 0), 1);
        DUE.is("from itself", x.origins(0, 0, 0), 1);
    }

    private static void talkOfOneThatDoesNotHaveIt() {
        ThreeVoices x = Due.told(TWO + "talk 0 0 1;think 1 0 0;");
        DUE.is("ahead of its thought", x.origins(1, 0, 0), 0);
        ThreeVoices y = Due.told(TWO + "think 0 1 0;talk 1 0 1;");
        DUE.is("nothing is taken", y.origins(1, 0, 0), 2);
        DUE.is("nothing goes back", y.origins(0, 0, 0), 0);
    }

    private static void talkToOneThatHasIt() {
        ThreeVoices x = Due.told(TWO + "think 0 0 0;think 0 1 0;talk 1 0 1;talk 1 0 1;");
        DUE.is("both", x.origins(1, 0, 0), 3);
        DUE.is("one", x.origins(0, 0, 0), 1);
    }

    private static void maybeToOneThatHasIt() {
        ThreeVoices x = Due.told(TWO + "think 0 0 0;think 0 1 0;maybe 1 0 1;");
        DUE.is("both", x.origins(1, 0, 1), 3);
        DUE.is("one", x.origins(1, 0, 0), 2);
        ThreeVoices y = Due.told(TWO + "think 0 1 0;maybe 1 0 1;");
        DUE.is("a letter of nothing takes nothing", y.origins(1, 0, 1), 2);
    }

    private static void sayOfOneThatDoesNotHaveIt() {
        ThreeVoices x = Due.told(TWO + "say 0 1 3;");
        DUE.is("it THINKS of it first", x.origins(1, 3, 0), 2);
        DUE.is("VOICE", x.voice(1, 3, 0), 2);
        DUE.is("no other THING", x.origins(1, 2, 0), 0);
    }

    private static void sayOfOneThatHasIt() {
        ThreeVoices x = Due.told(TWO + "think 0 0 3;talk 0 0 1;say 0 1 3;");
        DUE.is("no ORIGIN of its own", x.origins(1, 3, 0), 1);
        DUE.is("VOICE", x.voice(1, 3, 0), 1);
    }

    private static void sayHeardByNobody() {
        ThreeVoices x = Due.told(FOUR + "say 0 0 0;");
        for (int p = 1; p < 4; p++) {
            DUE.is("elsewhere", x.origins(p, 0, 0), 0);
        }
    }

    private static void sayHeardByAllSeven() {
        ThreeVoices x = Due.told("person2;".repeat(8) + "say 0 7 0;");
        for (int p = 0; p < 8; p++) {
            DUE.is("at its PLACE", x.origins(p, 0, 0), 128);
        }
        ThreeVoices y = Due.told("person2;".repeat(8) + "say 0 0 0;");
        DUE.is("the eighth", y.origins(7, 0, 0), 1);
    }

    private static void sayHeardWhereItIsThen() {
        ThreeVoices x = Due.told(TWO + "person 1;move 0 0 1;say 0 0 0;move 0 0 0;move 0 2 0;");
        DUE.is("at the PLACE it had moved to", x.origins(1, 0, 0), 1);
        DUE.is("who moved on has heard it", x.origins(2, 0, 0), 1);
        ThreeVoices y = Due.told(TWO + "say 0 0 0;move 0 1 0;move 1 0 1;say 1 0 1;");
        DUE.is("who came later has not", y.origins(1, 0, 0), 0);
        DUE.is("nor where it left", y.origins(1, 1, 0), 0);
    }

    private static void setOfNone() {
        ThreeVoices x = Due.told(TWO + "think 0 0 0;maybe 0 0 1;maybe 0 0 1;");
        DUE.is("none were", x.origins(1, 0, 0), 0);
        DUE.is("the first", x.origins(1, 0, 1), 1);
        DUE.is("the second", x.origins(1, 0, 2), 1);
    }

    private static void setOfAll() {
        ThreeVoices x = Due.told(ALL + "think0 0 0;maybe0 0 1;maybe0 1 2;maybe0 2 3;maybe0 3 4;maybe0 4 5;maybe0 5 6;");
        DUE.is("all six", x.origins(6, 0, 63), 1);
        for (int i = 0; i < 6; i++) {
            DUE.is("all but number " + i, x.origins(6, 0, 63 - (1 << i)), 0);
            DUE.is("up to number " + i, x.origins(i + 1, 0, (2 << i) - 1), 1);
        }
    }

    private static void setOfThoseThatThereAreNot() {
        ThreeVoices x = Due.told(TWO + "think 0 0 0;maybe 0 1 0;maybe 0 0 1;");
        int[] without = {4, 8, 32, 64, 1 << 30, LEAST, -3, -4, ~2, 61};
        for (int set : without) {
            DUE.is("set " + set, x.origins(1, 0, set), 0);
            DUE.is("set " + set, x.voice(0, 0, set), NONE);
        }
        int[] with = {2, 3, 6, 66, -1, -2, MOST, LEAST + 2};
        for (int set : with) {
            DUE.is("set " + set, x.origins(1, 0, set), 1);
        }
    }

    private static void setWithoutAnyMaybe() {
        ThreeVoices x = Due.told(FOUR + "talk 0 0 3;" + SAID);
        int[] sets = {0, 1, 63, 64, -1, LEAST, MOST};
        for (int set : sets) {
            DUE.is("origins", x.origins(3, 0, set), 0);
            DUE.is("voice", x.voice(2, 0, set), 4);
            DUE.is("law", x.law(0, set, 0), 5);
            DUE.is("law", x.law(0, set, 1), 7);
        }
    }

    private static void setAfterUndo() {
        ThreeVoices x = Due.told(TWO + "think 0 0 0;maybe 0 1 0;maybe 0 0 1;");
        DUE.is("the second", x.origins(1, 0, 2), 1);
        x.undo();
        DUE.is("there is no second", x.origins(1, 0, 2), 0);
        x.comes(0, 0, 1);
        DUE.is("a TALK is no MAYBE", x.origins(1, 0, 0), 1);
    }

    private static void voiceOfOneThatThereIsNot() {
        for (int p : NO_PERSON) {
            Refused.is(DUE, "voice(" + p + ", 0, 0)", x -> x.voice(p, 0, 0), BAD);
        }
    }

    private static void voiceOfAThingThatIsNone() {
        for (int t : NO_THING) {
            Refused.is(DUE, "voice(0, " + t + ", 0)", x -> x.voice(0, t, 0), BAD);
        }
    }

    private static void voiceOfNone() {
        ThreeVoices x = Due.told(TWO + "person 0;think 0 0 0;say 0 2 1;");
        DUE.is("who does not HAVE it", x.voice(1, 0, 0), NONE);
        DUE.is("who HAS it and said nothing", x.voice(0, 0, 0), NONE);
        DUE.is("who heard it", x.voice(0, 1, 0), NONE);
        DUE.is("who said another THING", x.voice(2, 0, 0), NONE);
    }

    private static void voiceOfTheFirstTime() {
        ThreeVoices x = Due.told(TWO + "think 0 0 0;think 0 1 0;say 1 0 0;talk 1 1 0;say 1 0 0;say 2 0 0;");
        DUE.is("ORIGINS as they were then", x.voice(0, 0, 0), 1);
        DUE.is("ORIGINS in the end", x.origins(0, 0, 0), 3);
    }

    private static void voiceOfAllEight() {
        StringBuilder text = new StringBuilder("person0;".repeat(8));
        for (int p = 0; p < 7; p++) {
            text.append("think0 " + p + " 0;talk0 " + p + " 7;");
        }
        ThreeVoices x = Due.told(text + "say 0 7 0;");
        DUE.is("seven others", x.voice(7, 0, 0), 127);
        DUE.is("each at its PLACE gets all", x.origins(3, 0, 0), 127);
        ThreeVoices y = Due.told("person0;".repeat(8) + "think0 7 0;" + text.substring(64) + "say 0 7 0;");
        DUE.is("and itself", y.voice(7, 0, 0), 255);
    }

    private static void voiceOfASet() {
        ThreeVoices x = Due.told(TWO + "think 0 0 0;maybe 0 0 1;say 1 1 0;maybe 2 0 1;");
        DUE.is("without", x.voice(1, 0, 0), 2);
        DUE.is("with", x.voice(1, 0, 1), 1);
        DUE.is("one that comes later", x.voice(1, 0, 2), 2);
    }

    private static void lawOfAThingThatIsNone() {
        for (int t : NO_THING) {
            Refused.is(DUE, "law(" + t + ", 0, 0)", x -> x.law(t, 0, 0), BAD);
            Refused.is(DUE, "law(" + t + ", 63, 1)", x -> x.law(t, 63, 1), BAD);
        }
    }

    private static void lawOfAWhatThatIsNone() {
        int[] bad = {-1, 2, 3, LEAST, MOST};
        ThreeVoices law = Due.told(FOUR + SAID);
        for (int what : bad) {
            Refused.is(DUE, "law(2, 0, " + what + ")", x -> x.law(2, 0, what), BAD);
            DUE.is("where it is LAW", law.law(0, 0, what), BAD);
        }
    }

    private static void lawOfNoVoices() {
        ThreeVoices x = Due.told(FOUR + "think 0 0 0;think 0 1 0;think 0 2 0;");
        DUE.is("thoughts are no VOICES", x.law(0, 0, 0), NONE);
        DUE.is("thoughts are no VOICES", x.law(0, 0, 1), NONE);
        ThreeVoices y = Due.told(TWO);
        DUE.is("two people", y.law(0, 0, 0), NONE);
    }

    private static void lawOfTwo() {
        ThreeVoices x = Due.told(FOUR + "say 0 0 0;say 1 1 0;say 2 0 0;say 3 1 0;");
        DUE.is("two, twice each", x.law(0, 0, 0), NONE);
        x.comes(3, 2, 1);
        DUE.is("a third says another THING", x.law(0, 0, 0), NONE);
        x.comes(3, 3, 0);
        DUE.is("a third", x.law(0, 0, 1), 11);
        DUE.is("DAY", x.law(0, 0, 0), 3);
    }

    private static void lawOfThreeOnOneDay() {
        ThreeVoices x = Due.told(FOUR + "say 7 3 2;say 7 2 2;say 7 1 2;say 7 0 2;");
        DUE.is("DAY", x.law(2, 0, 0), 7);
        DUE.is("as the third came", x.law(2, 0, 1), 14);
    }

    private static void lawOnTheFirstDay() {
        ThreeVoices x = Due.told(FOUR + "say 0 0 0;say 0 1 0;say 0 2 0;");
        DUE.is("DAY 0 is a DAY", x.law(0, 0, 0), 0);
        DUE.is("THE THREE", x.law(0, 0, 1), 7);
        DUE.is("stands", x.stands(0), 1);
    }

    private static void lawOnTheLastDay() {
        ThreeVoices x = Due.told(FOUR + "say 0 0 3;say 99 1 3;say 99 2 3;");
        DUE.is("DAY 99", x.law(3, 0, 0), 99);
        ThreeVoices y = Due.told(FOUR);
        y.comes(3, 1, 0);
        y.days(99);
        y.comes(3, 2, 0);
        DUE.is("two", y.law(0, 0, 0), NONE);
        y.comes(3, 3, 0);
        DUE.is("DAY 99", y.law(0, 0, 0), 99);
        DUE.is("the last numbers", y.law(0, 0, 1), 14);
    }

    private static void lawOfPairsThatAreJoined() {
        // Each time one pair alone has one in common: the first two, the last two, the first and the last.
        DUE.is("0 and 1", Due.told(FOUR + "think 0 3 0;talk 0 3 0;talk 0 3 1;" + SAID).law(0, 0, 0), NONE);
        DUE.is("1 and 2", Due.told(FOUR + "think 0 3 0;talk 0 3 1;talk 0 3 2;" + SAID).law(0, 0, 0), NONE);
        DUE.is("0 and 2", Due.told(FOUR + "think 0 3 0;talk 0 3 0;talk 0 3 2;" + SAID).law(0, 0, 0), NONE);
        DUE.is("each from another", Due.told(FOUR + "think 0 3 0;talk 0 3 0;" + SAID).law(0, 0, 0), 5);
        DUE.is("one of two in common", Due.told(FOUR + "think 0 0 0;think 0 1 0;talk 0 0 1;" + SAID).law(0, 0, 0), NONE);
    }

    private static void lawStaysWhateverComes() {
        ThreeVoices x = Due.told(FOUR + SAID + "talk 6 0 1;talk 6 1 2;say 7 0 0;say 7 1 0;say 7 2 0;");
        DUE.is("DAY", x.law(0, 0, 0), 5);
        DUE.is("THE THREE", x.law(0, 0, 1), 7);
    }

    private static void lawOfTheLastThree() {
        ThreeVoices x = Due.told("person0;person0;person0;person0;person0;person1;person2;person3;"
            + "say1 0 0;say2 1 0;say3 2 0;say4 3 0;say5 4 0;say6 5 0;say7 6 0;");
        DUE.is("with 5 and 6 one of those that have it from 0", x.law(0, 0, 1), 97);
        DUE.is("DAY", x.law(0, 0, 0), 7);
        ThreeVoices y = Due.told("person0;".repeat(5) + "person1;person2;person3;say 1 5 0;say 2 6 0;say 3 7 0;");
        DUE.is("the last three", y.law(0, 0, 1), 224);
    }

    private static void lawOfVoicesThatComeLater() {
        ThreeVoices x = Due.told("person1;person0;person0;person2;person3;say 1 4 0;say 2 3 0;say 3 2 0;say 3 0 0;");
        DUE.is("a lesser one on the same DAY", x.law(0, 0, 1), 28);
        ThreeVoices y = Due.told("person1;person0;person0;person2;person3;say 1 4 0;say 2 3 0;say 3 2 0;say 4 1 0;");
        DUE.is("a lesser one later", y.law(0, 0, 1), 28);
        DUE.is("DAY", y.law(0, 0, 0), 3);
    }

    private static void lawTakenBack() {
        ThreeVoices x = Due.told(FOUR + SAID);
        x.undo();
        DUE.is("two are left", x.law(0, 0, 0), NONE);
        x.days(1);
        x.comes(3, 3, 0);
        DUE.is("TODAY's", x.law(0, 0, 0), 6);
        DUE.is("THE THREE", x.law(0, 0, 1), 11);
    }

    private static void placeOfOneThatThereIsNot() {
        for (int p : NO_PERSON) {
            Refused.is(DUE, "place(" + p + ")", x -> x.place(p), BAD);
        }
    }

    private static void placeWithoutAMove() {
        ThreeVoices x = Due.told(FOUR);
        for (int p = 0; p < 4; p++) {
            DUE.is("as told", x.place(p), p);
        }
        DUE.is("a fifth", x.place(4), BAD);
    }

    private static void placeOfTheLastMove() {
        ThreeVoices x = Due.told(FOUR + "move 0 1 0;move 0 1 3;move 99 1 2;");
        DUE.is("in the end", x.place(1), 2);
        DUE.is("others keep theirs", x.place(0), 0);
        x.undo();
        DUE.is("taken back", x.place(1), 3);
        x.undo();
        x.undo();
        DUE.is("as told", x.place(1), 1);
    }

    private static void placeOfTheEighth() {
        ThreeVoices x = Due.told(ALL + "move 0 7 1;");
        DUE.is("the eighth", x.place(7), 1);
        DUE.is("a ninth", x.place(8), BAD);
    }
}
