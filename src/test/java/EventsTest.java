/** Promises 5 to 8: event, comes, days, undo. */
public final class EventsTest {
    private static final Due DUE = new Due("EventsTest");
    private static final int BAD = ThreeVoices.BAD;

    public static void main(String[] args) {
        anEvent();
        coming();
        comingBad();
        comingFull();
        daysGo();
        undoing();
        DUE.end();
    }

    private static void anEvent() {
        ThreeVoices x = Due.told("person 0;person 0;maybe 6 1 0;");
        DUE.is("sort", x.event(0, 0), 1);
        DUE.is("DAY", x.event(0, 1), 6);
        DUE.is("A", x.event(0, 2), 1);
        DUE.is("B", x.event(0, 3), 0);
        DUE.is("k 1", x.event(1, 0), BAD);
        DUE.is("k -1", x.event(-1, 0), BAD);
        DUE.is("what 4", x.event(0, 4), BAD);
        DUE.is("what -1", x.event(0, -1), BAD);
        x.undo();
        DUE.is("taken back", x.event(0, 0), BAD);
    }

    private static void coming() {
        ThreeVoices x = Due.told("person 0;person 0;person 1;say 3 0 0;");
        x.days(2);
        DUE.is("TALK", x.comes(0, 2, 1), 2);
        DUE.is("MAYBE", x.comes(1, 1, 0), 3);
        DUE.is("THINK", x.comes(2, 1, 3), 4);
        DUE.is("SAY", x.comes(3, 2, 2), 5);
        DUE.is("MOVE", x.comes(4, 0, 3), 6);
        long[][] want = {{0, 5, 2, 1}, {1, 5, 1, 0}, {2, 5, 1, 3}, {3, 5, 2, 2}, {4, 5, 0, 3}};
        for (int k = 0; k < 5; k++) {
            for (int what = 0; what < 4; what++) {
                DUE.is("event(" + (k + 1) + ", " + what + ")", x.event(k + 1, what), want[k][what]);
            }
        }
        DUE.is("MAYBE ones", x.count(2), 1);
        DUE.is("TODAY", x.count(3), 5);
    }

    private static void comingBad() {
        ThreeVoices x = Due.told("person 0;person 0;");
        int[][] bad = {{-1, 0, 1}, {5, 0, 1}, {0, 0, 0}, {0, 0, 2}, {0, 2, 0}, {0, -1, 0}, {0, 0, -1}, {1, 1, 1},
            {1, 0, 2}, {2, 0, 4}, {2, 0, -1}, {2, 2, 0}, {3, 0, 4}, {3, -1, 0}, {4, 0, 4}, {4, 2, 0}, {4, 1, -1}};
        for (int[] b : bad) {
            DUE.is("comes(" + b[0] + ", " + b[1] + ", " + b[2] + ")", x.comes(b[0], b[1], b[2]), BAD);
        }
        DUE.is("nothing came", x.count(1), 0);
        DUE.is("THING as number of one's own", x.comes(3, 1, 1), 1);
        DUE.is("PLACE as number of one's own", x.comes(4, 1, 1), 2);
        DUE.is("THING beyond PEOPLE", x.comes(2, 0, 3), 3);
    }

    private static void comingFull() {
        ThreeVoices x = Due.told("person 0;person 0;" + "maybe 0 0 1;".repeat(6));
        DUE.is("a seventh MAYBE", x.comes(1, 0, 1), ThreeVoices.FULL);
        DUE.is("BAD ahead of FULL", x.comes(1, 0, 0), BAD);
        for (int i = 7; i <= 40; i++) {
            DUE.is("TALK", x.comes(0, 0, 1), i);
        }
        for (int sort = 0; sort < 5; sort++) {
            DUE.is("a 41st", x.comes(sort, 0, 1), ThreeVoices.FULL);
        }
        DUE.is("BAD ahead of FULL", x.comes(5, 0, 1), BAD);
        DUE.is("undo", x.undo(), 39);
        DUE.is("again", x.comes(3, 0, 0), 40);
    }

    private static void daysGo() {
        ThreeVoices x = new ThreeVoices();
        DUE.is("days(0)", x.days(0), BAD);
        DUE.is("days(-1)", x.days(-1), BAD);
        DUE.is("days(100)", x.days(100), BAD);
        DUE.is("days(most)", x.days(Integer.MAX_VALUE), BAD);
        DUE.is("days(1)", x.days(1), 1);
        DUE.is("days(99)", x.days(99), ThreeVoices.STATE);
        DUE.is("days(100)", x.days(100), BAD);
        DUE.is("days(98)", x.days(98), 99);
        DUE.is("days(1)", x.days(1), ThreeVoices.STATE);
        DUE.is("TODAY", x.count(3), 99);
        ThreeVoices y = new ThreeVoices();
        DUE.is("days(99)", y.days(99), 99);
    }

    private static void undoing() {
        ThreeVoices x = Due.told("person 0;person 0;say 3 0 0;maybe 4 0 1;");
        DUE.is("undo", x.undo(), 1);
        DUE.is("MAYBE ones", x.count(2), 0);
        DUE.is("TODAY stays", x.count(3), 4);
        DUE.is("undo", x.undo(), 0);
        DUE.is("undo", x.undo(), ThreeVoices.STATE);
        DUE.is("TODAY stays", x.count(3), 4);
        DUE.is("comes", x.comes(1, 1, 0), 1);
        DUE.is("DAY", x.event(0, 1), 4);
        DUE.is("MAYBE ones", x.count(2), 1);
    }
}
