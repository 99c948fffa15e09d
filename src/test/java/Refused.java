/**
 * A call that is refused changes nothing: it is made on an object of which all that can be asked has been
 * asked ahead, and is asked again behind it: people, EVENTS, stories, THE TEXT's bytes, IMAGES, THE TRACE.
 */
final class Refused {
    /** Three people, three EVENTS, one of them MAYBE, TODAY 4; IMAGE 0 has these. */
    private static final String TOLD = "person 0;person 1;person 1;maybe 2 0 1;think 3 0 2;say 4 1 2;";
    /** Half an ITEM: with "3;" behind it, it is a text of one. */
    private static final String HALF = "person ";

    interface Call {
        long on(ThreeVoices x);
    }

    private Refused() {
    }

    static void is(Due due, String name, Call call, long want) {
        ThreeVoices x = some();
        long[] ahead = all(x);
        due.is(name, call.on(x), want);
        same(due, name, x, ahead);
        due.is(name + " again", call.on(x), want);
        due.is(name + ": the image", x.back(0), 3);
        due.is(name + ": the image's TODAY", x.count(3), 4);
        due.is(name + ": no other image", x.back(1), ThreeVoices.STATE);
        Due.type(x, "3;");
        due.is(name + ": the TEXT's bytes", x.tell(), 1);
        due.is(name + ": the TEXT's last byte", x.place(0), 3);
    }

    /** The same on an object of the test's own, whose text and images are not looked at. */
    static void on(Due due, String name, ThreeVoices x, Call call, long want) {
        long[] ahead = all(x);
        due.is(name, call.on(x), want);
        same(due, name, x, ahead);
    }

    private static ThreeVoices some() {
        ThreeVoices x = Due.told(TOLD);
        x.keep(0);
        x.days(3);
        x.comes(4, 2, 3);
        x.mark(0, 1, 2);
        Due.type(x, HALF);
        return x;
    }

    private static void same(Due due, String name, ThreeVoices x, long[] ahead) {
        long[] behind = all(x);
        due.is(name + ": as many answers", behind.length, ahead.length);
        for (int i = 0; i < Math.min(ahead.length, behind.length); i++) {
            due.is(name + ": what was asked as number " + i, behind[i], ahead[i]);
        }
    }

    private static long[] all(ThreeVoices x) {
        java.util.List<Long> said = new java.util.ArrayList<>();
        for (int what = 0; what < 5; what++) {
            said.add((long) x.count(what));
        }
        said.add(x.trace());
        int events = x.count(1);
        for (int k = 0; k < events; k++) {
            // The first four and the last one: of 40 EVENTS all would be too many calls for one object.
            for (int what = 0; what < 4 && (k < 4 || k == events - 1); what++) {
                said.add((long) x.event(k, what));
            }
        }
        for (int p = 0; p < x.count(0); p++) {
            said.add((long) x.place(p));
            said.add((long) x.origins(p, 2, 0));
            said.add((long) x.origins(p, 2, 1));
            said.add((long) x.voice(p, 2, 1));
        }
        said.add((long) x.empty());
        return said.stream().mapToLong(Long::longValue).toArray();
    }
}
