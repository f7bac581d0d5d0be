import java.lang.management.ManagementFactory;
import java.lang.management.ThreadMXBean;

/**
 * All calls of one run live in one room: some 600,000 objects and arrays, 7.3 million fields and elements in all.
 * An object takes 16 bytes at least, and a field or an element of a run one byte at least, so a million bytes are
 * far below both.
 */
public final class RoomTest {
    private static final long ROOM = 1_000_000;
    private static final int CALLS = 512;

    private interface Run {
        void go();
    }

    public static void main(String[] args) {
        ThreadMXBean threads = ManagementFactory.getThreadMXBean();
        if (threads instanceof com.sun.management.ThreadMXBean counting
                && counting.isThreadAllocatedMemorySupported()) {
            checkRoom("rounds and logs", counting, RoomTest::roundsAndLogs);
            checkRoom("dropped pieces", counting, RoomTest::droppedPieces);
            checkRoom("questions", counting, RoomTest::questions);
            checkRoom("refused calls", counting, RoomTest::refusedCalls);
        } else {
            System.out.println("this Java machine does not count bytes");
        }
        Check.end();
    }

    private static void checkRoom(String what, com.sun.management.ThreadMXBean counting, Run run) {
        run.go(); // the first time loads classes
        counting.setThreadAllocatedMemoryEnabled(true);
        long before = counting.getCurrentThreadAllocatedBytes();
        run.go();
        long made = counting.getCurrentThreadAllocatedBytes() - before;
        Check.due(what + " make " + made + " bytes", true, made < ROOM);
    }

    private static void roundsAndLogs() {
        Swarmhall hall = Halls.of(true, true, true, true, true, false);
        int calls = 6;
        for (; hall.rounds() < 200; calls += 2) {
            hall.run(1);
        }
        for (; calls < CALLS; calls++) {
            hall.holdsByLog(5);
        }
    }

    private static void droppedPieces() {
        Swarmhall hall = Halls.of(true, false, false, false, false, false);
        int calls = 6;
        for (; calls < CALLS / 2; calls++) {
            hall.spoil(0, calls % Halls.PIECES, true);
        }
        for (int k = 0; k < 10; k++, calls++) {
            hall.run(20);
        }
        for (; calls < CALLS; calls++) {
            hall.holdsByLog(calls % Halls.PEERS);
        }
    }

    private static void questions() {
        Swarmhall hall = Halls.of(true, true, true, false, false, false);
        hall.setCareful(0, true);
        for (int calls = 7; calls < CALLS; calls += 5) {
            hall.chosen(calls % Halls.PEERS);
            hall.shown(0, calls % Halls.PEERS);
            hall.blocks(calls % Halls.PEERS, 0);
            hall.holders(calls % Halls.PIECES);
            hall.peers();
        }
    }

    private static void refusedCalls() {
        Swarmhall hall = Halls.of(true, true, true, true, true, true);
        for (int calls = 6; calls < CALLS; calls++) {
            Check.dueThrow("no such peer", IndexOutOfBoundsException.class, () -> hall.holds(6));
        }
    }
}
