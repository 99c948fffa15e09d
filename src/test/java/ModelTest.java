/**
 * Runs of 512 calls, made by a fixed row of numbers, each answer held against Model's: all promises.
 * A number behind the class's name on the command line is how many runs (the first argument is not read).
 */
public final class ModelTest {
    private static final Due DUE = new Due("ModelTest");
    private static final String[] WORDS = {"talk", "maybe", "think", "say", "move"};
    private static final String[] WRONG = {"", ";", "4", "00", "100", "person", "x", "-", "\u00c8", "99", "say", " 7 7 "};

    private static final int[] FAR = {Integer.MIN_VALUE, Integer.MIN_VALUE + 1, -1000000, 100, 256, 65536, 1 << 30,
        Integer.MAX_VALUE - 1, Integer.MAX_VALUE};

    private long state;
    private int folk = 0;
    private final ThreeVoices x = new ThreeVoices();
    private final Model m = new Model();

    private ModelTest(long seed) {
        state = seed * 7919 + 12345;
    }

    public static void main(String[] args) {
        int runs = args.length > 1 ? Integer.parseInt(args[1]) : 120;
        for (int run = 0; run < runs; run++) {
            new ModelTest(2L * run).go();
            new ModelTest(2L * run + 1).goWithFaults();
        }
        DUE.end();
    }

    private int some(int n) {
        state = state * 6364136223846793005L + 1442695040888963407L;
        return (int) ((state >>> 33) % n);
    }

    private void go() {
        int left = 512;
        left -= tellOne(false);
        while (left > 80) {
            int pick = some(100);
            if (pick < 2) {
                left -= tellOne(some(3) == 0);
            } else if (pick < 4) {
                left -= typeAny();
            } else {
                ask(pick < 45 ? some(7) : 7 + some(19));
                left--;
            }
        }
    }

    /** Texts with faults alone, one behind another on one object. */
    private void goWithFaults() {
        int left = 512;
        while (left > 60) {
            left -= tellOne(true);
            for (int what = 0; what < 5; what++) {
                DUE.is("count(" + what + ")", x.count(what), m.count(what));
                left--;
            }
        }
    }

    private int typeAny() {
        long v = (long) some(1 << 30) << 34 ^ some(1 << 30);
        int n = some(8) == 0 ? number(8) : some(12) - 1;
        DUE.is("type(" + v + ", " + n + ")", x.type(v, n), m.type(v, n));
        return 1;
    }

    /** Types a text, whole or with a fault in it, tells it, and clears it if it has a fault. */
    private int tellOne(boolean faulty) {
        String text = text();
        if (faulty) {
            int at = some(text.length() + 1);
            int to = Math.min(text.length(), at + some(3));
            text = text.substring(0, at) + WRONG[some(WRONG.length)] + text.substring(to);
        }
        if (text.length() > 400) {
            text = text.substring(0, text.lastIndexOf(';', 399) + 1);
        }
        int calls = 2;
        DUE.is("clear()", x.clear(), m.clear());
        for (int i = 0; i < text.length(); i += 8) {
            int end = Math.min(i + 8, text.length());
            long v = 0;
            for (int k = i; k < end; k++) {
                v = v << 8 | text.charAt(k);
            }
            DUE.is("type", x.type(v, end - i), m.type(v, end - i));
            calls++;
        }
        DUE.is("tell \"" + text + "\"", x.tell(), m.tell());
        folk = m.count(0);
        return calls;
    }

    private String text() {
        StringBuilder b = new StringBuilder();
        int people = some(4) == 0 ? some(9) : 3 + some(6);
        for (int p = 0; p < people; p++) {
            b.append(some(5) == 0 ? " person " : "person").append(some(4)).append(";");
        }
        int events = people == 0 ? 0 : some(4) == 0 ? some(41) : 5 + some(25);
        int day = 0;
        int things = 1 + some(4);
        int maybes = 0;
        for (int k = 0; k < events; k++) {
            int sort = some(5);
            if (sort == 1 && maybes == 6 || sort < 2 && people < 2) {
                sort = 3;
            }
            maybes += sort == 1 ? 1 : 0;
            day = Math.min(99, day + (some(3) == 0 ? 1 + some(3) : 0));
            int a = some(people);
            int other = sort < 2 ? (a + 1 + some(people - 1)) % people : sort == 4 ? some(4) : some(things);
            b.append(WORDS[sort]).append(some(4) == 0 ? "  " : "").append(day).append(' ').append(a).append(' ')
                .append(other).append(some(6) == 0 ? " ; " : ";");
        }
        return b.toString();
    }

    /** A number up to most, or now and then one beyond, at times far beyond. */
    private int number(int most) {
        int pick = some(40);
        if (pick == 2 && some(4) == 0) {
            return FAR[some(FAR.length)];
        }
        if (pick == 0) {
            return -1 - some(3);
        }
        if (pick == 1) {
            return most + 1 + some(3);
        }
        return most < 0 ? 0 : some(most + 1);
    }

    private int day() {
        int pick = some(20);
        return pick == 0 ? number(99) : some(m.count(3) + 2);
    }

    private int set() {
        return some(6) == 0 ? some(1 << 30) - (1 << 29) : some(64);
    }

    private void ask(int call) {
        int p = number(folk - 1);
        int t = some(3) == 0 ? number(3) : 0;
        int set = set();
        int day = day();
        int what = number(1);
        String with = " of " + p + ", " + t + ", " + set + ", " + day + ", " + what;
        switch (call) {
            case 0, 1, 2, 3 -> askToCome();
            case 4 -> askDays();
            case 5 -> DUE.is("undo", x.undo(), m.undo());
            case 6 -> DUE.is("event" + with, x.event(what * p, t), m.event(what * p, t));
            case 7 -> DUE.is("origins" + with, x.origins(p, t, set), m.origins(p, t, set));
            case 8 -> DUE.is("voice" + with, x.voice(p, t, set), m.voice(p, t, set));
            case 9, 10 -> DUE.is("law" + with, x.law(t, set, what), m.law(t, set, what));
            case 11 -> DUE.is("place" + with, x.place(p), m.place(p));
            case 12 -> DUE.is("stands" + with, x.stands(t), m.stands(t));
            case 13 -> DUE.is("falls" + with, x.falls(t), m.falls(t));
            case 14 -> DUE.is("alone" + with, x.alone(t), m.alone(t));
            case 15 -> DUE.is("empty" + with, x.empty(), m.empty());
            case 16 -> DUE.is("hints" + with, x.hints(t, day), m.hints(t, day));
            case 17 -> DUE.is("hinder" + with, x.hinder(t, day), m.hinder(t, day));
            case 18, 19 -> askTurns(t, day);
            case 20 -> DUE.is("keepAt" + with, x.keepAt(p, day), m.keepAt(p, day));
            case 21 -> askChance(t, day, what);
            case 22 -> askMark(p, t);
            case 23 -> DUE.is("keep" + with, x.keep(what), m.keep(what));
            case 24 -> DUE.is("back" + with, x.back(what), m.back(what));
            default -> askCounts();
        }
    }

    private void askToCome() {
        int sort = number(4);
        int a = number(folk - 1);
        int b = sort < 2 ? number(folk - 1) : number(3);
        DUE.is("comes(" + sort + ", " + a + ", " + b + ")", x.comes(sort, a, b), m.comes(sort, a, b));
    }

    private void askDays() {
        int n = some(9) == 0 ? number(99) : 1 + some(2);
        DUE.is("days(" + n + ")", x.days(n), m.days(n));
    }

    private void askTurns(int t, int day) {
        int n = some(12) == 0 ? number(2) : some(8) == 0 ? 2 : 1;
        DUE.is("turns(" + t + ", " + day + ", " + n + ")", x.turns(t, day, n), m.turns(t, day, n));
    }

    private void askChance(int t, int day, int what) {
        int b = some(12) == 0 ? number(9) : 1 + some(9);
        int a = some(12) == 0 ? number(9) : some(Math.max(b, 0) + 1);
        DUE.is("chance(" + t + ", " + day + ", " + a + ", " + b + ", " + what + ")",
            x.chance(t, day, a, b, what), m.chance(t, day, a, b, what));
    }

    private void askMark(int p, int t) {
        int kind = number(5);
        DUE.is("mark(" + kind + ", " + p + ", " + t + ")", x.mark(kind, p, t), m.mark(kind, p, t));
    }

    private void askCounts() {
        for (int what = 0; what < 3; what++) {
            int asked = number(4);
            DUE.is("count(" + asked + ")", x.count(asked), m.count(asked));
        }
        DUE.is("trace", x.trace(), m.trace());
    }
}
