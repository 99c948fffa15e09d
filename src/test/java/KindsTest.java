/** Promises 22 to 24 and 26: mark, keep, back, trace; and the constants. */
public final class KindsTest {
    private static final Due DUE = new Due("KindsTest");
    private static final int BAD = ThreeVoices.BAD, STATE = ThreeVoices.STATE, NO = ThreeVoices.NO;

    public static void main(String[] args) {
        constants();
        marks();
        marksBelowNothing();
        marksBad();
        images();
        imagesKeepNoMore();
        imagesBad();
        DUE.end();
    }

    private static void constants() {
        DUE.is("BAD", ThreeVoices.BAD, -1);
        DUE.is("STATE", ThreeVoices.STATE, -2);
        DUE.is("FULL", ThreeVoices.FULL, -3);
        DUE.is("NONE", ThreeVoices.NONE, -9);
        DUE.is("NO", ThreeVoices.NO, -1000000);
    }

    private static void marks() {
        ThreeVoices x = Due.told("person 0;person 0;person 0;person 0;person 1;think 0 0 3;think 0 1 3;talk 1 0 2;"
            + "talk 2 1 2;maybe 3 4 2;move 3 2 1;");
        long[] want = {2, 4, 4, 7, 3, 8};
        long[] traced = {1, 11, 101, 1011, 10101, 100001};
        long sum = 0;
        for (int kind = 0; kind < 6; kind++) {
            DUE.is("mark(" + kind + ", 2, 3)", x.mark(kind, 2, 3), want[kind]);
            sum += traced[kind];
            DUE.is("trace", x.trace(), sum);
        }
        DUE.is("again", x.mark(3, 2, 3), 7);
        DUE.is("trace", x.trace(), sum + 1011);
        x.comes(1, 3, 2);
        DUE.is("MAYBE ones are EVENTS, too", x.mark(5, 2, 3), 9);
    }

    private static void marksBelowNothing() {
        ThreeVoices x = Due.told("person 3;person 2;think 0 1 0;maybe 0 1 0;");
        DUE.is("SAYING of none", x.mark(0, 0, 0), 0);
        DUE.is("SONG of none", x.mark(3, 0, 2), 2);
        DUE.is("HUM of none", x.mark(4, 0, 0), -3);
        DUE.is("HUM", x.mark(4, 1, 0), 0);
        DUE.is("trace", x.trace(), 1 + 1011 + 2 * 10101);
    }

    private static void marksBad() {
        ThreeVoices x = Due.told("person 0;person 0;think 0 0 0;");
        int[][] bad = {{-1, 0, 0}, {6, 0, 0}, {0, 2, 0}, {0, -1, 0}, {0, 0, 4}, {0, 0, -1}, {5, 8, 0}};
        for (int[] b : bad) {
            DUE.is("mark(" + b[0] + ", " + b[1] + ", " + b[2] + ")", x.mark(b[0], b[1], b[2]), NO);
        }
        DUE.is("the TRACE stays", x.trace(), 0);
        DUE.is("mark", x.mark(0, 0, 0), 1);
    }

    private static void images() {
        ThreeVoices x = Due.told("person 0;person 1;maybe 2 0 1;think 3 0 0;");
        DUE.is("keep(0)", x.keep(0), 2);
        DUE.is("back(1)", x.back(1), STATE);
        x.days(4);
        x.comes(4, 0, 1);
        x.comes(1, 1, 0);
        DUE.is("keep(1)", x.keep(1), 4);
        DUE.is("back(0)", x.back(0), 2);
        DUE.is("EVENTS", x.count(1), 2);
        DUE.is("MAYBE ones", x.count(2), 1);
        DUE.is("TODAY", x.count(3), 3);
        DUE.is("PLACE", x.place(0), 0);
        x.undo();
        x.undo();
        x.comes(3, 1, 2);
        DUE.is("event", x.event(0, 2), 1);
        DUE.is("back(0) again", x.back(0), 2);
        DUE.is("event as it was", x.event(0, 0), 1);
        DUE.is("back(1)", x.back(1), 4);
        DUE.is("PLACE", x.place(0), 1);
        DUE.is("TODAY", x.count(3), 7);
        DUE.is("MAYBE ones", x.count(2), 2);
        DUE.is("event", x.event(3, 0), 1);
        DUE.is("keep(0) over the other", x.keep(0), 4);
        x.undo();
        DUE.is("back(0)", x.back(0), 4);
    }

    private static void imagesKeepNoMore() {
        ThreeVoices x = Due.told("person 0;think 0 0 0;");
        x.keep(0);
        Due.type(x, "pers");
        x.mark(0, 0, 0);
        x.keep(1);
        Due.type(x, "on 1;");
        x.mark(0, 0, 0);
        x.back(0);
        DUE.is("the TEXT stays", x.count(4), 9);
        DUE.is("the TRACE stays", x.trace(), 2);
        DUE.is("both are kept", x.back(1), 1);
        x.undo();
        DUE.is("none is kept, too", x.keep(1), 0);
        x.comes(2, 0, 1);
        DUE.is("back to none", x.back(1), 0);
    }

    private static void imagesBad() {
        ThreeVoices x = Due.told("person 0;think 0 0 0;");
        int[] bad = {-1, 2, Integer.MAX_VALUE, Integer.MIN_VALUE};
        for (int image : bad) {
            DUE.is("keep(" + image + ")", x.keep(image), BAD);
            DUE.is("back(" + image + ")", x.back(image), BAD);
        }
        DUE.is("back(0)", x.back(0), STATE);
        DUE.is("EVENTS", x.count(1), 1);
    }
}
