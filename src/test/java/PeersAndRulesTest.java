/** Promises 1 to 7. */
public final class PeersAndRulesTest {
    private static final Class<IndexOutOfBoundsException> INDEX = IndexOutOfBoundsException.class;
    private static final Class<IllegalArgumentException> ARGUMENT = IllegalArgumentException.class;
    private static final Class<IllegalStateException> STATE = IllegalStateException.class;

    public static void main(String[] args) {
        newObject();
        join();
        leave();
        leaveKeepsBlocks();
        leaveKeepsWrongBlocks();
        setPriority();
        setSequence();
        setCareful();
        spoil();
        spoilCountsWhenBlocksCome();
        Check.end();
    }

    private static void newObject() {
        Swarmhall hall = new Swarmhall();
        Check.due("1: NONE", -1, Swarmhall.NONE);
        Check.due("1: peers", 0, hall.peers());
        Check.due("1: rounds", 0, hall.rounds());
        Check.due("1: holders", 0, hall.holders(0));
        Check.dueThrow("1: holds(0)", INDEX, () -> hall.holds(0));
        for (int piece = 0; piece < Halls.PIECES; piece++) {
            Check.due("1: first priority of " + piece, 1, hall.setPriority(piece, 2));
        }
    }

    private static void join() {
        Swarmhall hall = new Swarmhall();
        for (int number = 0; number < Halls.PEERS; number++) {
            boolean isSeeder = number % 2 == 1;
            Check.due("2: number", number, hall.join(isSeeder));
            Check.due("2: what it holds", isSeeder ? Halls.ALL : 0, hall.holds(number));
        }
        Check.dueThrow("2: a seventh seeder", STATE, () -> hall.join(true));
        Check.dueThrow("2: a seventh one", STATE, () -> hall.join(false));
        Check.due("2: peers", 63, hall.peers());
        hall.leave(2);
        Check.dueThrow("2: a number is not given again", STATE, () -> hall.join(false));

        Swarmhall second = Halls.of(true);
        second.leave(0);
        Check.due("2: the next number", 1, second.join(false));
    }

    private static void leave() {
        Swarmhall hall = Halls.of(true, false, false);
        hall.run(4);
        Check.due("3: pieces of a leecher", 1, hall.leave(1));
        Check.due("3: pieces of a seeder", 12, hall.leave(0));
        Check.due("3: pieces of the last one", 1, hall.leave(2));
        Check.due("3: peers", 0, hall.peers());
        Check.due("3: holders", 0, hall.holders(0));
        for (int peer : new int[] {-1, 0, 1, 2, 3, 5, 6, Integer.MIN_VALUE, Integer.MAX_VALUE}) {
            Check.dueThrow("3: leave " + peer, INDEX, () -> hall.leave(peer));
        }
    }

    private static void leaveKeepsBlocks() {
        Swarmhall hall = Halls.of(true, true, false);
        hall.run(1);
        Check.due("3: blocks before", 3, hall.blocks(2, 0));
        hall.leave(0);
        Check.due("3: blocks stay", 3, hall.blocks(2, 0));
        Check.due("3: one is left to ask", 2, hall.run(2));
        Check.due("3: the piece is held", 1, hall.holds(2));
        Check.due("3: and by the log", 1, hall.holdsByLog(2));
    }

    private static void leaveKeepsWrongBlocks() {
        Swarmhall hall = Halls.of(true, true, false);
        hall.spoil(0, 0, true);
        hall.run(1);
        hall.leave(0);
        hall.run(2);
        Check.due("3: a wrong block stays wrong", 0, hall.holds(2));
        Check.due("3: it is dropped", 0, hall.blocks(2, 0));
        Check.due("3: strikes", 1, hall.strikes(2, 1));
        Check.due("3: three of four are no ban", false, hall.isBanned(2, 1));
    }

    private static void setPriority() {
        Swarmhall hall = Halls.of(true, false);
        Check.due("4: before", 1, hall.setPriority(11, 3));
        Check.due("4: before", 3, hall.setPriority(11, 0));
        Check.due("4: before", 0, hall.setPriority(11, 2));
        Check.due("4: another piece", 1, hall.setPriority(0, 0));
        for (int piece : new int[] {-1, 12, Integer.MIN_VALUE, Integer.MAX_VALUE}) {
            Check.dueThrow("4: piece " + piece, INDEX, () -> hall.setPriority(piece, 1));
            Check.dueThrow("4: piece first " + piece, INDEX, () -> hall.setPriority(piece, 4));
        }
        for (int priority : new int[] {-1, 4, Integer.MIN_VALUE, Integer.MAX_VALUE}) {
            Check.dueThrow("4: priority " + priority, ARGUMENT, () -> hall.setPriority(11, priority));
        }
        hall.run(1);
        Check.due("4: the highest one is asked for", 1, hall.blocks(1, 11));
        hall.setPriority(11, 0);
        hall.run(1);
        Check.due("4: what is not wanted stays", 1, hall.blocks(1, 11));
        Check.due("4: 0 is not wanted", 0, hall.blocks(1, 0));
        Check.due("4: the next one is asked for", 1, hall.blocks(1, 1));
    }

    private static void setSequence() {
        Swarmhall hall = Halls.of(true, false);
        Check.due("5: not at first", false, hall.setSequence(1, false));
        Check.due("5: on", true, hall.setSequence(1, true));
        Check.due("5: on again", false, hall.setSequence(1, true));
        Check.due("5: off", true, hall.setSequence(1, false));
        Check.due("5: each for itself", true, hall.setSequence(0, true));
        dueThrowForNobody("5", peer -> () -> hall.setSequence(peer, true));
        hall.leave(0);
        Check.dueThrow("5: one that left", INDEX, () -> hall.setSequence(0, false));
    }

    private static void setCareful() {
        Swarmhall hall = Halls.of(true, false);
        Check.due("6: not at first", false, hall.setCareful(0, false));
        Check.due("6: all is shown", Halls.ALL, hall.shown(0, 1));
        Check.due("6: on", true, hall.setCareful(0, true));
        Check.due("6: one is shown", 2, hall.shown(0, 1));
        Check.due("6: on again", false, hall.setCareful(0, true));
        Check.due("6: off", true, hall.setCareful(0, false));
        Check.due("6: all is shown again", Halls.ALL, hall.shown(0, 1));
        dueThrowForNobody("6", peer -> () -> hall.setCareful(peer, true));
        hall.leave(0);
        Check.dueThrow("6: one that left", INDEX, () -> hall.setCareful(0, true));
    }

    private static void spoil() {
        Swarmhall hall = Halls.of(true, false);
        Check.due("7: not at first", false, hall.spoil(0, 11, false));
        Check.due("7: on", true, hall.spoil(0, 11, true));
        Check.due("7: on again", false, hall.spoil(0, 11, true));
        Check.due("7: another piece", true, hall.spoil(0, 0, true));
        Check.due("7: off", true, hall.spoil(0, 11, false));
        Check.due("7: off again", false, hall.spoil(0, 11, false));
        Check.due("7: the other piece is still on", false, hall.spoil(0, 0, true));
        dueThrowForNobody("7", peer -> () -> hall.spoil(peer, 0, true));
        for (int piece : new int[] {-1, 12, 32, Integer.MIN_VALUE, Integer.MAX_VALUE}) {
            Check.dueThrow("7: piece " + piece, INDEX, () -> hall.spoil(0, piece, true));
        }
        hall.setPriority(11, 3);
        hall.run(8);
        Check.due("7: only the spoilt one is wrong", 1 << 11, hall.holds(1));
        Check.due("7: it is dropped", 0, hall.blocks(1, 0));
        Check.due("7: who spoils is banned", true, hall.isBanned(1, 0));
        hall.leave(0);
        Check.dueThrow("7: one that left", INDEX, () -> hall.spoil(0, 0, true));
    }

    private static void spoilCountsWhenBlocksCome() {
        Swarmhall early = Halls.of(true, false);
        early.spoil(0, 0, true);
        early.run(1);
        early.spoil(0, 0, false);
        early.run(3);
        Check.due("7: spoilt when it came", 0, early.holds(1));
        Check.due("7: its sender is banned", true, early.isBanned(1, 0));

        Swarmhall late = Halls.of(true, false);
        late.run(4);
        late.spoil(0, 0, true);
        late.run(4);
        Check.due("7: not spoilt when it came", 3, late.holds(1));
        Check.due("7: its sender is not banned", false, late.isBanned(1, 0));
    }

    private interface CallWith {
        Check.Call of(int peer);
    }

    private static void dueThrowForNobody(String what, CallWith call) {
        for (int peer : new int[] {-1, 2, 5, 6, Integer.MIN_VALUE, Integer.MAX_VALUE}) {
            Check.dueThrow(what + ": peer " + peer, INDEX, call.of(peer));
        }
    }
}
