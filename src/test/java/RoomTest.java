import java.lang.management.ManagementFactory;
import java.util.function.LongSupplier;

/** That calls make nothing: what all calls of a run may make is counted, so the rows are made once, by "new". */
public final class RoomTest {
    private static final Due DUE = new Due("RoomTest");
    private static final com.sun.management.ThreadMXBean THREAD =
        (com.sun.management.ThreadMXBean) ManagementFactory.getThreadMXBean();

    public static void main(String[] args) {
        ThreeVoices x = Due.told("person0;".repeat(8) + "maybe 0 0 1;".repeat(6) + "say0 0 0;".repeat(20));
        makesNothing("origins", () -> x.origins(0, 0, 63));
        makesNothing("law", () -> x.law(0, 63, 1));
        makesNothing("stands", () -> x.stands(0));
        makesNothing("falls", () -> x.falls(0));
        makesNothing("alone", () -> x.alone(0));
        makesNothing("empty", x::empty);
        makesNothing("hints", () -> x.hints(0, 0));
        makesNothing("hinder", () -> x.hinder(0, 0));
        makesNothing("turns", () -> x.turns(0, 0, 2));
        makesNothing("keepAt", () -> x.keepAt(0, 0));
        makesNothing("chance", () -> x.chance(0, 0, 1, 9, 0));
        makesNothing("mark", () -> x.mark(4, 0, 0));
        makesNothing("keep", () -> x.keep(0));
        makesNothing("back", () -> x.back(0));
        makesNothing("comes", () -> x.comes(0, 0, 1));
        makesNothing("type", () -> x.type(0x706572736f6e303bL, 8));
        makesNothing("tell", () -> x.clear() + x.type(0x706572736f6e303bL, 8) + x.tell());
        newMakesLittle();
        DUE.end();
    }

    /** All objects of a run share one room, so one of them is to take little of it. */
    private static void newMakesLittle() {
        ThreeVoices[] kept = new ThreeVoices[100];
        long ahead = THREAD.getCurrentThreadAllocatedBytes();
        for (int i = 0; i < kept.length; i++) {
            kept[i] = new ThreeVoices();
        }
        long each = (THREAD.getCurrentThreadAllocatedBytes() - ahead) / kept.length;
        DUE.is("new made " + each + " bytes each: too many", each > 10000 ? 1 : 0, kept[99].count(0));
    }

    private static void makesNothing(String call, LongSupplier asked) {
        long sum = asked.getAsLong();
        long ahead = THREAD.getCurrentThreadAllocatedBytes();
        for (int i = 0; i < 200; i++) {
            sum += asked.getAsLong();
        }
        long made = THREAD.getCurrentThreadAllocatedBytes() - ahead;
        // The measuring itself makes a little; one object a call would be 3,200 bytes at least.
        DUE.is(call + " (" + sum + ") made " + made + " bytes in 200 calls: too many", made > 2000 ? 1 : 0, 0);
    }
}
