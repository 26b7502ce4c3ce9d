import java.lang.management.ManagementFactory;

/** All calls of a run share one room: a call makes no object, and an object takes little. */
public final class RoomTest {
    private static final long OBJECT_BYTES = 16_000;
    // The measuring itself, and what the machine makes when a method first runs.
    private static final long SPARE_BYTES = 200_000;

    public static void main(String[] args) {
        com.sun.management.ThreadMXBean threads =
                (com.sun.management.ThreadMXBean) ManagementFactory.getThreadMXBean();
        long thread = Thread.currentThread().getId();
        allCalls(new WordEquations());
        WordEquations[] objects = new WordEquations[100];
        long start = threads.getThreadAllocatedBytes(thread);
        for (int i = 0; i < objects.length; i++) {
            objects[i] = new WordEquations();
        }
        long made = threads.getThreadAllocatedBytes(thread);
        for (int i = 0; i < 20; i++) {
            allCalls(objects[i]);
        }
        long called = threads.getThreadAllocatedBytes(thread);
        Checks.isTrue("an object takes " + (made - start) / objects.length + " bytes",
                made - start < objects.length * OBJECT_BYTES);
        Checks.isTrue("the calls took " + (called - made) + " bytes", called - made < SPARE_BYTES);
        Checks.finish();
    }

    private static void append(WordEquations x, int... codes) {
        x.clearText();
        for (int code : codes) {
            x.append(code);
        }
    }

    private static void allCalls(WordEquations x) {
        append(x, 'X', 'Y', 'Z', 'W', '=', 'W', 'Z', 'Y', 'X', ';', 'X', '<', '9');
        x.errorPosition();
        x.load();
        x.sideLength(0);
        x.symbolAt(0, 0);
        x.occurrences(0, 0);
        x.countSolutions(3);
        append(x, 'W', 'X', 'Y', 'Z', 'a', 'b');
        x.substitute(0);
        for (int i = 0; i < 20; i++) {
            x.swapSides();
            x.reverse();
            x.exchangeLetters();
            x.decide();
            x.nodeCount();
            x.countSolutions(3);
            x.firstSolution(3, 0);
            x.leastTotalLength(3);
            x.countLengths(9);
            x.satisfies(62, 62, 62, 62);
            x.randomChecks(i, 200);
            x.runScript(4, 702601100200L);
        }
        x.save(0);
        x.cancel();
        x.eliminate(0);
        x.undo();
        x.refutedByCounting();
        x.proofLength();
        x.proofRule(0);
        x.witnessLength(0);
        x.witnessLetter(0, 0);
        x.restore(0);
    }
}
