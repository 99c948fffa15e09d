/** The boundary cases of promises 22 to 24 and 26, a test each: mark, keep, back, trace. */
public final class KindsBoundsTest {
    private static final Due DUE = new Due("KindsBoundsTest");
    private static final int BAD = ThreeVoices.BAD, STATE = ThreeVoices.STATE, FULL = ThreeVoices.FULL;
    private static final int NO = ThreeVoices.NO;
    private static final int LEAST = Integer.MIN_VALUE, MOST = Integer.MAX_VALUE;
    private static final int[] NO_IMAGE = {-1, 2, 3, LEAST, MOST};
    private static final String TWO = "person 0;person 1;";

    public static void main(String[] args) {
        markOfAKindThatIsNone();
        markOfOneThatThereIsNot();
        markOfAThingThatIsNone();
        markOfNobody();
        markOfNoOrigins();
        markOfAllEight();
        markBelowNothing();
        markOfNoEvents();
        markOfTheFortieth();
        markWithoutMaybes();
        traceOfNone();
        traceOfEachKind();
        traceOfRefusedCalls();
        traceOfFiveHundredCalls();
        traceStays();
        keepOfAnImageThatIsNone();
        keepOfNoEvents();
        keepOfForty();
        keepOverAnother();
        keepIsNotTouchedByWhatComes();
        backOfAnImageThatIsNone();
        backOfAnImageThatWasNotKept();
        backBadAheadOfState();
        backToAnEarlierDay();
        backFromFull();
        backToMaybes();
        backTwice();
        backLeavesTheRest();
        DUE.end();
    }

    private static void markOfAKindThatIsNone() {
        int[] bad = {-1, 6, 7, LEAST, MOST};
        for (int kind : bad) {
            Refused.is(DUE, "mark(" + kind + ", 0, 0)", x -> x.mark(kind, 0, 0), NO);
        }
    }

    private static void markOfOneThatThereIsNot() {
        int[] bad = {-1, 3, 8, LEAST, MOST};
        for (int kind = 0; kind < 6; kind++) {
            int some = kind;
            for (int p : bad) {
                Refused.is(DUE, "mark(" + kind + ", " + p + ", 0)", x -> x.mark(some, p, 0), NO);
            }
        }
    }

    private static void markOfAThingThatIsNone() {
        int[] bad = {-1, 4, 5, LEAST, MOST};
        for (int kind = 0; kind < 6; kind++) {
            int some = kind;
            for (int t : bad) {
                Refused.is(DUE, "mark(" + kind + ", 0, " + t + ")", x -> x.mark(some, 0, t), NO);
            }
        }
    }

    private static void markOfNobody() {
        ThreeVoices x = new ThreeVoices();
        for (int kind = 0; kind < 6; kind++) {
            DUE.is("mark(" + kind + ", 0, 0)", x.mark(kind, 0, 0), NO);
        }
        DUE.is("trace", x.trace(), 0);
    }

    private static void marks(String name, ThreeVoices x, int p, int t, int... want) {
        for (int kind = 0; kind < 6; kind++) {
            DUE.is(name + ": mark(" + kind + ", " + p + ", " + t + ")", x.mark(kind, p, t), want[kind]);
        }
    }

    private static void markOfNoOrigins() {
        ThreeVoices x = Due.told("person 2;person 1;move 0 0 3;");
        marks("does not HAVE it", x, 0, 0, 0, 0, 0, 0, -3, 1);
        marks("does not HAVE it", x, 1, 3, 0, 0, 1, 3, 0, 1);
    }

    private static void markOfAllEight() {
        StringBuilder text = new StringBuilder("person0;".repeat(7) + "person3;");
        for (int p = 0; p < 7; p++) {
            text.append("think0 " + p + " 3;talk0 " + p + " 7;");
        }
        text.append("talk0 7 0;think0 7 2;");
        ThreeVoices x = Due.told(text.toString());
        marks("seven", x, 7, 3, 7, 14, 14, 17, 11, 23);
        ThreeVoices y = Due.told("person0;".repeat(7) + "person3;think0 7 3;" + text.substring(64));
        marks("eight", y, 7, 3, 8, 16, 15, 19, 12, 25);
    }

    private static void markBelowNothing() {
        ThreeVoices x = Due.told("person 3;");
        DUE.is("HUM at the last PLACE, by the first one", x.mark(4, 0, 0), -3);
        x.comes(2, 0, 0);
        DUE.is("HUM with one ORIGIN", x.mark(4, 0, 0), -2);
    }

    private static void markOfNoEvents() {
        ThreeVoices x = Due.told(TWO);
        marks("no EVENTS", x, 1, 0, 0, 0, 1, 0, 0, 0);
        x.comes(2, 1, 0);
        marks("one EVENT", x, 1, 0, 1, 2, 2, 2, 1, 2);
        x.undo();
        marks("taken back", x, 1, 0, 0, 0, 1, 0, 0, 0);
    }

    private static void markOfTheFortieth() {
        ThreeVoices x = Due.told("person0;" + "say0 0 0;".repeat(40));
        DUE.is("WRITTEN", x.mark(5, 0, 0), 41);
        DUE.is("WRITTEN", x.mark(5, 0, 3), 40);
    }

    private static void markWithoutMaybes() {
        ThreeVoices x = Due.told(TWO + "think 0 0 0;think 0 1 0;maybe 1 0 1;");
        marks("no letter was", x, 1, 0, 1, 2, 2, 2, 1, 4);
        DUE.is("with it there are two", x.origins(1, 0, 1), 3);
    }

    private static void traceOfNone() {
        ThreeVoices x = Due.told(TWO + "say 0 0 0;");
        x.keep(0);
        x.hints(0, 0);
        x.back(0);
        DUE.is("no mark() yet", x.trace(), 0);
        DUE.is("asked twice", x.trace(), 0);
    }

    private static void traceOfEachKind() {
        long[] want = {1, 11, 101, 1011, 10101, 100001};
        for (int kind = 0; kind < 6; kind++) {
            ThreeVoices x = Due.told(TWO + "say 0 0 0;");
            x.mark(kind, 1, 3);
            DUE.is("once, kind " + kind, x.trace(), want[kind]);
            x.mark(kind, 0, 0);
            DUE.is("twice, kind " + kind, x.trace(), 2 * want[kind]);
        }
    }

    private static void traceOfRefusedCalls() {
        ThreeVoices x = Due.told(TWO);
        x.mark(3, 0, 0);
        x.mark(6, 0, 0);
        x.mark(5, 2, 0);
        x.mark(5, 0, 4);
        x.mark(-1, -1, -1);
        DUE.is("the first alone", x.trace(), 1011);
    }

    private static void traceOfFiveHundredCalls() {
        ThreeVoices x = Due.told(TWO);
        for (int i = 0; i < 500; i++) {
            x.mark(5, 0, 0);
        }
        DUE.is("WRITTEN 500 times", x.trace(), 50000500L);
    }

    private static void traceStays() {
        ThreeVoices x = Due.told(TWO + "say 0 0 0;");
        x.keep(0);
        x.mark(4, 0, 0);
        x.undo();
        DUE.is("undo", x.trace(), 10101);
        x.back(0);
        DUE.is("back", x.trace(), 10101);
        Due.type(x, "person 0;");
        x.clear();
        DUE.is("clear", x.trace(), 10101);
        x.tell();
        DUE.is("tell", x.trace(), 10101);
        DUE.is("nobody", x.mark(0, 0, 0), NO);
        DUE.is("and goes on from there", x.trace(), 10101);
    }

    private static void keepOfAnImageThatIsNone() {
        for (int image : NO_IMAGE) {
            Refused.is(DUE, "keep(" + image + ")", x -> x.keep(image), BAD);
        }
    }

    private static void keepOfNoEvents() {
        ThreeVoices x = new ThreeVoices();
        DUE.is("nobody, nothing", x.keep(1), 0);
        x.days(4);
        DUE.is("back", x.back(1), 0);
        DUE.is("TODAY", x.count(3), 0);
        DUE.is("the other one", x.back(0), STATE);
    }

    private static void keepOfForty() {
        for (int image = 0; image < 2; image++) {
            ThreeVoices x = Due.told("person0;person2;" + "think0 0 0;".repeat(7) + "say0 0 0;".repeat(30) + "say0 0 3;");
            x.days(8);
            x.comes(2, 0, 1);
            x.comes(1, 1, 0);
            DUE.is("keep", x.keep(image), 40);
            x.undo();
            x.days(1);
            x.comes(4, 0, 3);
            DUE.is("back", x.back(image), 40);
            long[] want = {1, 8, 1, 0};
            for (int what = 0; what < 4; what++) {
                DUE.is("event(39, " + what + ")", x.event(39, what), want[what]);
            }
            DUE.is("MAYBE ones", x.count(2), 1);
            x.undo();
            x.comes(2, 1, 2);
            x.back(image);
            DUE.is("the 40th was a letter of nothing", x.empty(), 1);
            DUE.is("a 41st", x.comes(3, 0, 0), FULL);
        }
        ThreeVoices y = Due.told("person0;person2;" + "say0 0 0;".repeat(38));
        y.comes(2, 1, 3);
        y.comes(1, 1, 0);
        y.keep(0);
        y.undo();
        y.comes(0, 1, 0);
        y.back(0);
        DUE.is("the letter that is the 40th", y.origins(0, 3, 1), 2);
        DUE.is("without it", y.origins(0, 3, 0), 0);
    }

    private static void keepOverAnother() {
        ThreeVoices x = Due.told(TWO + "say 3 0 0;");
        x.keep(0);
        x.keep(1);
        x.comes(3, 1, 0);
        DUE.is("kept again", x.keep(0), 2);
        x.undo();
        x.undo();
        DUE.is("the later one", x.back(0), 2);
        DUE.is("the other stays", x.back(1), 1);
    }

    private static void keepIsNotTouchedByWhatComes() {
        ThreeVoices x = Due.told(TWO + "say 3 0 0;think 4 1 1;");
        x.keep(0);
        x.undo();
        x.undo();
        x.days(9);
        x.comes(4, 1, 3);
        x.comes(4, 0, 2);
        DUE.is("back", x.back(0), 2);
        long[][] want = {{3, 3, 0, 0}, {2, 4, 1, 1}};
        for (int k = 0; k < 2; k++) {
            for (int what = 0; what < 4; what++) {
                DUE.is("event(" + k + ", " + what + ")", x.event(k, what), want[k][what]);
            }
        }
        DUE.is("PLACE", x.place(1), 1);
    }

    private static void backOfAnImageThatIsNone() {
        for (int image : NO_IMAGE) {
            Refused.is(DUE, "back(" + image + ")", x -> x.back(image), BAD);
        }
    }

    private static void backOfAnImageThatWasNotKept() {
        Refused.is(DUE, "back(1)", x -> x.back(1), STATE);
        ThreeVoices x = Due.told(TWO + "say 3 0 0;");
        Refused.on(DUE, "back(0)", x, y -> y.back(0), STATE);
        x.keep(1);
        Refused.on(DUE, "back(0) where 1 is kept", x, y -> y.back(0), STATE);
        DUE.is("back(1)", x.back(1), 1);
        x.tell();
        DUE.is("back(1) behind tell()", x.back(1), STATE);
    }

    private static void backBadAheadOfState() {
        ThreeVoices x = new ThreeVoices();
        for (int image : NO_IMAGE) {
            DUE.is("back(" + image + ")", x.back(image), BAD);
        }
    }

    private static void backToAnEarlierDay() {
        ThreeVoices x = Due.told(TWO);
        x.keep(0);
        DUE.is("to the last DAY", x.days(99), 99);
        x.keep(1);
        DUE.is("no DAY more", x.days(1), STATE);
        x.back(0);
        DUE.is("TODAY", x.count(3), 0);
        DUE.is("all DAYS again", x.days(99), 99);
        x.back(0);
        x.back(1);
        DUE.is("no DAY more", x.days(1), STATE);
    }

    private static void backFromFull() {
        ThreeVoices x = Due.told(TWO);
        x.keep(0);
        for (int i = 0; i < 40; i++) {
            x.comes(0, 0, 1);
        }
        DUE.is("full", x.comes(0, 0, 1), FULL);
        DUE.is("back to none", x.back(0), 0);
        DUE.is("undo of none", x.undo(), STATE);
        DUE.is("room again", x.comes(1, 0, 1), 1);
    }

    private static void backToMaybes() {
        ThreeVoices x = Due.told(TWO + "think 0 0 0;" + "maybe 0 0 1;".repeat(6));
        x.keep(0);
        x.undo();
        x.undo();
        x.keep(1);
        DUE.is("back", x.back(0), 7);
        DUE.is("six", x.count(2), 6);
        DUE.is("a seventh", x.comes(1, 0, 1), FULL);
        DUE.is("the sixth is bit 5", x.origins(1, 0, 32), 1);
        DUE.is("back", x.back(1), 5);
        DUE.is("four", x.count(2), 4);
        DUE.is("a fifth", x.comes(1, 0, 1), 6);
        DUE.is("it is bit 4", x.origins(1, 0, 16), 1);
        DUE.is("there is no sixth", x.origins(1, 0, 32), 0);
    }

    private static void backTwice() {
        ThreeVoices x = Due.told(TWO + "say 3 0 0;");
        x.keep(1);
        for (int i = 0; i < 5; i++) {
            x.undo();
            x.days(1);
            DUE.is("back", x.back(1), 1);
            DUE.is("TODAY", x.count(3), 3);
        }
    }

    private static void backLeavesTheRest() {
        ThreeVoices x = Due.told(TWO + "say 3 0 0;");
        x.keep(0);
        Due.type(x, "person 2;");
        x.mark(2, 0, 0);
        x.back(0);
        DUE.is("PEOPLE", x.count(0), 2);
        DUE.is("THE TEXT", x.count(4), 9);
        DUE.is("THE TRACE", x.trace(), 101);
        DUE.is("its bytes", x.tell(), 1);
        DUE.is("PLACE", x.place(0), 2);
    }
}
