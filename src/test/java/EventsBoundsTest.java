/** The boundary cases of promises 5 to 8, a test each: event, comes, days, undo. */
public final class EventsBoundsTest {
    private static final Due DUE = new Due("EventsBoundsTest");
    private static final int BAD = ThreeVoices.BAD, STATE = ThreeVoices.STATE, FULL = ThreeVoices.FULL;
    private static final int LEAST = Integer.MIN_VALUE, MOST = Integer.MAX_VALUE;
    private static final String TWO = "person 0;person 1;";

    public static void main(String[] args) {
        eventOfNone();
        eventBelowTheFirst();
        eventBeyondTheLast();
        eventOfAWhatThatIsNone();
        eventFirstAndLastOfForty();
        comesOfASortThatIsNone();
        comesOfOneThatThereIsNot();
        comesToOneThatThereIsNot();
        comesToOneAndTheSame();
        comesOfAThingThatIsNone();
        comesOfAPlaceThatIsNone();
        comesTheFortieth();
        comesFull();
        comesASeventhMaybe();
        comesBadAheadOfFull();
        comesOnTheFirstAndLastDay();
        comesBehindTold();
        daysOfATooSmallOrLargeNumber();
        daysOneAndNinetyNine();
        daysToTheLast();
        daysBeyondTheLast();
        daysBadAheadOfState();
        undoOfNone();
        undoToNone();
        undoLeavesToday();
        undoMakesRoom();
        undoOfAMaybe();
        DUE.end();
    }

    private static void eventOfNone() {
        ThreeVoices x = Due.told(TWO);
        for (int what = 0; what < 4; what++) {
            DUE.is("event(0, " + what + ")", x.event(0, what), BAD);
            DUE.is("event(-1, " + what + ")", x.event(-1, what), BAD);
        }
    }

    private static void eventBelowTheFirst() {
        int[] bad = {-1, -2, LEAST};
        for (int k : bad) {
            Refused.is(DUE, "event(" + k + ", 0)", x -> x.event(k, 0), BAD);
        }
    }

    private static void eventBeyondTheLast() {
        int[] bad = {4, 5, 40, 41, MOST};
        for (int k : bad) {
            Refused.is(DUE, "event(" + k + ", 1)", x -> x.event(k, 1), BAD);
        }
        ThreeVoices x = Due.told(TWO + "say 3 0 2;say 4 1 2;");
        x.undo();
        DUE.is("one that was taken back", x.event(1, 0), BAD);
        DUE.is("the one ahead of it", x.event(0, 0), 3);
    }

    private static void eventOfAWhatThatIsNone() {
        int[] bad = {-1, 4, 5, LEAST, MOST};
        for (int what : bad) {
            Refused.is(DUE, "event(0, " + what + ")", x -> x.event(0, what), BAD);
        }
    }

    private static void eventFirstAndLastOfForty() {
        ThreeVoices x = Due.told("person0;".repeat(8) + "talk0 7 6;" + "say0 0 0;".repeat(33));
        x.days(99);
        for (int k = 34; k < 39; k++) {
            x.comes(2, 1, 1);
        }
        DUE.is("the 40th", x.comes(4, 7, 3), 40);
        long[][] want = {{0, 0, 7, 6}, {4, 99, 7, 3}};
        for (int what = 0; what < 4; what++) {
            DUE.is("event(0, " + what + ")", x.event(0, what), want[0][what]);
            DUE.is("event(39, " + what + ")", x.event(39, what), want[1][what]);
        }
        DUE.is("event(40, 0)", x.event(40, 0), BAD);
    }

    private static void comesOfASortThatIsNone() {
        int[] bad = {-1, 5, LEAST, MOST};
        for (int sort : bad) {
            Refused.is(DUE, "comes(" + sort + ", 0, 1)", x -> x.comes(sort, 0, 1), BAD);
        }
    }

    private static void comesOfOneThatThereIsNot() {
        int[] bad = {-1, 3, 8, LEAST, MOST};
        for (int sort = 0; sort < 5; sort++) {
            int one = sort;
            for (int a : bad) {
                Refused.is(DUE, "comes(" + sort + ", " + a + ", 1)", x -> x.comes(one, a, 1), BAD);
            }
        }
    }

    private static void comesToOneThatThereIsNot() {
        int[] bad = {-1, 3, 8, LEAST, MOST};
        for (int b : bad) {
            Refused.is(DUE, "comes(0, 0, " + b + ")", x -> x.comes(0, 0, b), BAD);
            Refused.is(DUE, "comes(1, 0, " + b + ")", x -> x.comes(1, 0, b), BAD);
        }
        ThreeVoices x = Due.told("person0;".repeat(8));
        DUE.is("the last two", x.comes(0, 7, 6), 1);
        DUE.is("the last two", x.comes(1, 6, 7), 2);
        DUE.is("a ninth", x.comes(0, 7, 8), BAD);
        DUE.is("a ninth", x.comes(0, 8, 7), BAD);
    }

    private static void comesToOneAndTheSame() {
        for (int p = 0; p < 3; p++) {
            int one = p;
            Refused.is(DUE, "TALK to oneself", x -> x.comes(0, one, one), BAD);
            Refused.is(DUE, "MAYBE to oneself", x -> x.comes(1, one, one), BAD);
        }
        ThreeVoices x = Due.told("person0;");
        DUE.is("with nobody else", x.comes(0, 0, 1), BAD);
        DUE.is("THINK of the THING of one's number", x.comes(2, 0, 0), 1);
        DUE.is("SAY it", x.comes(3, 0, 0), 2);
        DUE.is("MOVE there", x.comes(4, 0, 0), 3);
    }

    private static void comesOfAThingThatIsNone() {
        int[] bad = {-1, 4, 8, LEAST, MOST};
        for (int t : bad) {
            Refused.is(DUE, "THINK of " + t, x -> x.comes(2, 0, t), BAD);
            Refused.is(DUE, "SAY " + t, x -> x.comes(3, 0, t), BAD);
        }
        ThreeVoices x = Due.told("person0;");
        DUE.is("THINK of 3", x.comes(2, 0, 3), 1);
        DUE.is("SAY 3", x.comes(3, 0, 3), 2);
    }

    private static void comesOfAPlaceThatIsNone() {
        int[] bad = {-1, 4, 8, LEAST, MOST};
        for (int place : bad) {
            Refused.is(DUE, "MOVE to " + place, x -> x.comes(4, 0, place), BAD);
        }
        ThreeVoices x = Due.told("person0;");
        DUE.is("MOVE to 3", x.comes(4, 0, 3), 1);
        DUE.is("PLACE 3", x.place(0), 3);
        DUE.is("MOVE to where it is", x.comes(4, 0, 3), 2);
        DUE.is("PLACE 3", x.place(0), 3);
    }

    private static ThreeVoices with(int events) {
        ThreeVoices x = Due.told(TWO);
        for (int i = 1; i <= events; i++) {
            DUE.is("EVENT " + i, x.comes(i % 3 == 0 ? 0 : 2, 0, 1), i);
        }
        return x;
    }

    private static void comesTheFortieth() {
        for (int sort = 0; sort < 5; sort++) {
            DUE.is("the 40th, of sort " + sort, with(39).comes(sort, 0, 1), 40);
        }
    }

    private static void comesFull() {
        for (int sort = 0; sort < 5; sort++) {
            int one = sort;
            Refused.on(DUE, "a 41st, of sort " + sort, with(40), x -> x.comes(one, 0, 1), FULL);
        }
        ThreeVoices x = Due.told("person0;" + "say0 0 0;".repeat(40));
        DUE.is("a 41st behind 40 that were told", x.comes(3, 0, 0), FULL);
    }

    private static void comesASeventhMaybe() {
        ThreeVoices x = Due.told(TWO);
        for (int i = 1; i <= 6; i++) {
            DUE.is("MAYBE " + i, x.comes(1, i % 2, 1 - i % 2), i);
        }
        Refused.on(DUE, "a seventh", x, y -> y.comes(1, 0, 1), FULL);
        DUE.is("six", x.count(2), 6);
        DUE.is("a TALK", x.comes(0, 0, 1), 7);
        DUE.is("a seventh behind it", x.comes(1, 0, 1), FULL);
        DUE.is("THINK", x.comes(2, 0, 1), 8);
        DUE.is("SAY", x.comes(3, 0, 1), 9);
        DUE.is("MOVE", x.comes(4, 0, 1), 10);
        ThreeVoices y = Due.told(TWO + "maybe 0 0 1;".repeat(6));
        DUE.is("a seventh behind six that were told", y.comes(1, 0, 1), FULL);
    }

    private static void comesBadAheadOfFull() {
        ThreeVoices x = with(40);
        int[][] bad = {{-1, 0, 1}, {5, 0, 1}, {0, 0, 0}, {1, 1, 1}, {0, 2, 0}, {0, 0, 2}, {2, 0, 4}, {3, -1, 0}, {4, 0, -1}};
        for (int[] b : bad) {
            DUE.is("comes(" + b[0] + ", " + b[1] + ", " + b[2] + ") on 40", x.comes(b[0], b[1], b[2]), BAD);
        }
        ThreeVoices y = Due.told(TWO + "maybe 0 0 1;".repeat(6));
        DUE.is("a seventh MAYBE to oneself", y.comes(1, 0, 0), BAD);
        DUE.is("a seventh MAYBE of one that there is not", y.comes(1, 2, 0), BAD);
    }

    private static void comesOnTheFirstAndLastDay() {
        ThreeVoices x = Due.told(TWO);
        x.comes(3, 0, 0);
        DUE.is("DAY 0", x.event(0, 1), 0);
        x.days(99);
        x.comes(3, 1, 0);
        DUE.is("DAY 99", x.event(1, 1), 99);
        DUE.is("DAY 0 stays", x.event(0, 1), 0);
    }

    private static void comesBehindTold() {
        ThreeVoices x = Due.told(TWO + "maybe 3 0 1;say 4 1 2;");
        DUE.is("the third", x.comes(1, 1, 0), 3);
        DUE.is("on the DAY of the last EVENT told", x.event(2, 1), 4);
        DUE.is("the second MAYBE", x.origins(0, 2, 2), 2);
        DUE.is("not the first", x.origins(0, 2, 1), 0);
    }

    private static void daysOfATooSmallOrLargeNumber() {
        int[] bad = {0, -1, 100, 101, LEAST, LEAST + 1, MOST, MOST - 6};
        for (int n : bad) {
            Refused.is(DUE, "days(" + n + ")", x -> x.days(n), BAD);
        }
    }

    private static void daysOneAndNinetyNine() {
        for (int n = 1; n <= 99; n++) {
            ThreeVoices x = new ThreeVoices();
            DUE.is("days(" + n + ")", x.days(n), n);
            DUE.is("TODAY", x.count(3), n);
        }
    }

    private static void daysToTheLast() {
        ThreeVoices x = Due.told(TWO + "say 40 0 0;");
        DUE.is("days(59)", x.days(59), 99);
        ThreeVoices y = new ThreeVoices();
        for (int day = 1; day <= 99; day++) {
            DUE.is("days(1)", y.days(1), day);
        }
        DUE.is("a hundredth", y.days(1), STATE);
    }

    private static void daysBeyondTheLast() {
        // TODAY is 7 there.
        Refused.is(DUE, "days(93)", x -> x.days(93), STATE);
        Refused.is(DUE, "days(99)", x -> x.days(99), STATE);
        ThreeVoices x = Due.told(TWO + "say 99 0 0;");
        Refused.on(DUE, "days(1) on 99", x, y -> y.days(1), STATE);
        Refused.on(DUE, "days(99) on 99", x, y -> y.days(99), STATE);
        ThreeVoices z = Due.told(TWO + "say 98 0 0;");
        DUE.is("days(2) on 98", z.days(2), STATE);
        DUE.is("days(1) on 98", z.days(1), 99);
    }

    private static void daysBadAheadOfState() {
        ThreeVoices x = Due.told(TWO + "say 99 0 0;");
        DUE.is("days(0) on 99", x.days(0), BAD);
        DUE.is("days(100) on 99", x.days(100), BAD);
        DUE.is("days(-1) on 99", x.days(-1), BAD);
        DUE.is("days(most) on 99", x.days(MOST), BAD);
    }

    private static void undoOfNone() {
        ThreeVoices x = Due.told(TWO);
        x.days(5);
        Refused.on(DUE, "undo of none", x, y -> y.undo(), STATE);
        DUE.is("TODAY", x.count(3), 5);
        DUE.is("PEOPLE", x.count(0), 2);
    }

    private static void undoToNone() {
        ThreeVoices x = with(40);
        for (int left = 39; left >= 0; left--) {
            DUE.is("undo", x.undo(), left);
        }
        DUE.is("undo of none", x.undo(), STATE);
        DUE.is("undo of none again", x.undo(), STATE);
        DUE.is("EVENTS", x.count(1), 0);
        DUE.is("one comes", x.comes(3, 0, 0), 1);
    }

    private static void undoLeavesToday() {
        ThreeVoices x = Due.told(TWO + "say 3 0 0;say 9 1 0;");
        DUE.is("undo", x.undo(), 1);
        DUE.is("TODAY is not that of the one ahead", x.count(3), 9);
        DUE.is("undo", x.undo(), 0);
        DUE.is("TODAY is not 0", x.count(3), 9);
        x.comes(3, 0, 0);
        DUE.is("what comes is on it", x.event(0, 1), 9);
    }

    private static void undoMakesRoom() {
        ThreeVoices x = with(40);
        DUE.is("undo", x.undo(), 39);
        DUE.is("a 40th", x.comes(4, 1, 3), 40);
        DUE.is("it is the new one", x.event(39, 0), 4);
        DUE.is("a 41st", x.comes(4, 1, 3), FULL);
    }

    private static void undoOfAMaybe() {
        ThreeVoices x = Due.told(TWO + "maybe 0 0 1;".repeat(6) + "talk 0 0 1;");
        DUE.is("undo of a TALK", x.undo(), 6);
        DUE.is("MAYBE ones", x.count(2), 6);
        DUE.is("makes no room for a MAYBE", x.comes(1, 0, 1), FULL);
        DUE.is("undo of a MAYBE", x.undo(), 5);
        DUE.is("MAYBE ones", x.count(2), 5);
        DUE.is("SAY", x.comes(3, 1, 0), 6);
        DUE.is("a MAYBE again", x.comes(1, 1, 0), 7);
        DUE.is("it is the sixth", x.origins(0, 0, 32), 2);
        DUE.is("and no seventh", x.comes(1, 1, 0), FULL);
    }
}
