/** Each "Returns" and "Throws" sentence of the promises at its edges, in the order of the promises. */
public final class EdgesOfPromisesTest {
    private static final Class<IndexOutOfBoundsException> INDEX = IndexOutOfBoundsException.class;
    private static final Class<IllegalArgumentException> ARGUMENT = IllegalArgumentException.class;
    private static final Class<IllegalStateException> STATE = IllegalStateException.class;
    private static final int[] NO_NUMBERS = {-1, 6, -6, 7, 31, 32, 64, Integer.MIN_VALUE, Integer.MAX_VALUE};

    /** A call that is due to throw if the peer is not there. */
    private interface PeerCall {
        Object answer(Swarmhall hall, int peer);
    }

    /** All calls that take a peer; the second peer of those that take two is the peer itself. */
    private static final PeerCall[] PEER_CALLS = {
        (hall, peer) -> hall.setSequence(peer, true),
        (hall, peer) -> hall.setSequence(peer, false),
        (hall, peer) -> hall.setCareful(peer, true),
        (hall, peer) -> hall.setCareful(peer, false),
        (hall, peer) -> hall.spoil(peer, 0, true),
        (hall, peer) -> hall.spoil(peer, 11, false),
        (hall, peer) -> hall.holds(peer),
        (hall, peer) -> hall.holdsByLog(peer),
        (hall, peer) -> hall.blocks(peer, 0),
        (hall, peer) -> hall.shown(peer, peer),
        (hall, peer) -> hall.chosen(peer),
        (hall, peer) -> hall.got(peer, peer),
        (hall, peer) -> hall.doubles(peer),
        (hall, peer) -> hall.strikes(peer, peer),
        (hall, peer) -> hall.isBanned(peer, peer),
        (hall, peer) -> hall.leave(peer),
    };

    private interface PairCall {
        Object answer(Swarmhall hall, int peer, int other);
    }

    private static final PairCall[] PAIR_CALLS = {
        (hall, peer, other) -> hall.shown(peer, other),
        (hall, peer, other) -> hall.got(peer, other),
        (hall, peer, other) -> hall.strikes(peer, other),
        (hall, peer, other) -> hall.isBanned(peer, other),
    };

    public static void main(String[] args) {
        newHall();
        nobodyHere();
        peersThatAreNot();
        peersNotYetHere();
        peersThatLeft();
        pairsWithOneThatIsNot();
        join();
        leaveReturns();
        leaveIsRefusedTheSecondTime();
        setPriorityReturns();
        setPriorityThrowsTheFirstOfBoth();
        settersReturnWhatChanges();
        settersGoForOne();
        spoilsOfNoPiece();
        runFrom1To20();
        runUpTo200();
        runThrowsTheFirstOfBoth();
        runReturnsWhatComes();
        rounds();
        peers();
        holdsAndLog();
        logOfOneThatLeftOthers();
        blocks();
        holders();
        shown();
        chosen();
        got();
        doubles();
        strikes();
        isBanned();
        fiveHundredAndTwelveCalls();
        Check.end();
    }

    // ---- who is there

    private static void newHall() {
        Swarmhall hall = new Swarmhall();
        Check.due("1: no peers", 0, hall.peers());
        Check.due("1: no rounds", 0, hall.rounds());
        for (int piece = 0; piece < Halls.PIECES; piece++) {
            Check.due("1: no holders", 0, hall.holders(piece));
        }
        hall.join(true);
        Check.due("1: two halls have nothing in common", 0, new Swarmhall().peers());
    }

    private static void nobodyHere() {
        Swarmhall hall = new Swarmhall();
        for (int peer = 0; peer < Halls.PEERS; peer++) {
            dueNoPeer("nobody has joined", hall, peer);
        }
        Check.due("8: nothing comes", 0, hall.run(20));
        Check.due("9: the rounds count", 20, hall.rounds());
        Check.due("2: the first one", 0, hall.join(false));
    }

    private static void peersThatAreNot() {
        Swarmhall hall = Halls.of(true, true, false, false, false, false);
        for (int peer : NO_NUMBERS) {
            dueNoPeer("no number of a peer", hall, peer);
        }
        for (PeerCall call : PEER_CALLS) {
            Swarmhall all = Halls.of(true, false, true, false, true, false);
            for (int peer = 0; peer < Halls.PEERS; peer++) {
                int taken = peer;
                Object answer = Check.answerOf(() -> call.answer(all, taken));
                Check.due("taken: " + peer, false, answer.toString().startsWith("throws"));
            }
        }
    }

    private static void peersNotYetHere() {
        Swarmhall hall = new Swarmhall();
        for (int peer = 0; peer < Halls.PEERS; peer++) {
            dueNoPeer("not yet", hall, peer);
            hall.join(peer == 0);
            Check.due("now", peer == 0 ? Halls.ALL : 0, hall.holds(peer));
        }
        dueNoPeer("never", hall, 6);
    }

    private static void peersThatLeft() {
        Swarmhall hall = Halls.of(true, false, false, false, false, true);
        hall.run(5);
        for (int peer : new int[] {0, 5, 2, 1, 4, 3}) {
            Check.due("it is here", true, hall.holds(peer) >= 0);
            hall.leave(peer);
            dueNoPeer("it has left", hall, peer);
        }
        Check.due("10: nobody is left", 0, hall.peers());
        Check.due("8: nothing comes", 0, hall.run(1));
    }

    private static void pairsWithOneThatIsNot() {
        Swarmhall hall = Halls.of(true, false, false, true);
        hall.run(2);
        hall.leave(2);
        for (PairCall call : PAIR_CALLS) {
            for (int not : new int[] {-1, 2, 4, 5, 6, 32, Integer.MIN_VALUE, Integer.MAX_VALUE}) {
                for (int here : new int[] {0, 1, 3}) {
                    Check.dueThrow("other " + not, INDEX, () -> call.answer(hall, here, not));
                    Check.dueThrow("peer " + not, INDEX, () -> call.answer(hall, not, here));
                }
                Check.dueThrow("both " + not, INDEX, () -> call.answer(hall, not, not));
            }
            for (int here : new int[] {0, 1, 3}) {
                Object answer = Check.answerOf(() -> call.answer(hall, 3, here));
                Check.due("both are here", false, answer.toString().startsWith("throws"));
            }
        }
    }

    // ---- peers and rules

    private static void join() {
        Swarmhall hall = Halls.of(true, true, true, true, true);
        hall.leave(4);
        Check.due("2: the sixth one is taken", 5, hall.join(false));
        Check.dueThrow("2: the seventh one is not", STATE, () -> hall.join(false));
        Check.due("10: no one has come", Halls.set(0, 1, 2, 3, 5), hall.peers());
    }

    private static void leaveReturns() {
        Swarmhall hall = Halls.of(true, false, false, false);
        Check.due("3: none", 0, hall.leave(3));
        hall.run(3);
        Check.due("3: begun ones do not count", 0, hall.leave(2));
        hall.run(20);
        hall.run(20);
        hall.run(4);
        Check.due("3: eleven", 11, Integer.bitCount(hall.holds(1)));
        Check.due("3: eleven", 11, hall.leave(1));
        Check.due("3: all", 12, hall.leave(0));
    }

    private static void leaveIsRefusedTheSecondTime() {
        Swarmhall hall = Halls.of(false, true);
        hall.leave(1);
        Check.dueThrow("3: not any more", INDEX, () -> hall.leave(1));
        Check.due("10: the other one stays", 1, hall.peers());
    }

    private static void setPriorityReturns() {
        Swarmhall hall = new Swarmhall();
        int before = 1;
        for (int priority : new int[] {0, 1, 2, 3, 3, 0, 0, 2}) {
            Check.due("4: before " + priority, before, hall.setPriority(11, priority));
            before = priority;
        }
        Check.due("4: the other ones are as they were", 1, hall.setPriority(10, 1));
    }

    private static void setPriorityThrowsTheFirstOfBoth() {
        Swarmhall hall = new Swarmhall();
        for (int piece : new int[] {-1, 12}) {
            for (int priority : new int[] {-1, 4}) {
                Check.dueThrow("4: both are wrong", INDEX, () -> hall.setPriority(piece, priority));
                Check.dueThrow("4: the priority is", ARGUMENT, () -> hall.setPriority(0, priority));
            }
            Check.dueThrow("4: the piece is", INDEX, () -> hall.setPriority(piece, 0));
        }
        Check.due("4: it is as it was", 1, hall.setPriority(0, 1));
        Check.due("4: it is as it was", 1, hall.setPriority(11, 1));
    }

    private static void settersReturnWhatChanges() {
        Swarmhall hall = Halls.of(true, false);
        boolean[] values = {false, true, true, false, false, true};
        boolean[] changes = {false, true, false, true, false, true};
        for (int k = 0; k < values.length; k++) {
            Check.due("5: call " + k, changes[k], hall.setSequence(1, values[k]));
            Check.due("6: call " + k, changes[k], hall.setCareful(1, values[k]));
            Check.due("7: call " + k, changes[k], hall.spoil(1, 0, values[k]));
            Check.due("7: call " + k, changes[k], hall.spoil(1, 11, values[k]));
        }
    }

    private static void settersGoForOne() {
        Swarmhall hall = Halls.of(true, true);
        hall.setSequence(0, true);
        hall.setCareful(0, true);
        for (int piece = 0; piece < Halls.PIECES; piece++) {
            Check.due("7: each piece for itself", true, hall.spoil(0, piece, true));
        }
        Check.due("5: each for itself", true, hall.setSequence(1, true));
        Check.due("6: each for itself", true, hall.setCareful(1, true));
        Check.due("7: each for itself", true, hall.spoil(1, 11, true));
        int late = hall.join(true);
        Check.due("5: not at first", false, hall.setSequence(late, false));
        Check.due("6: not at first", false, hall.setCareful(late, false));
        for (int piece = 0; piece < Halls.PIECES; piece++) {
            Check.due("7: not at first", false, hall.spoil(late, piece, false));
        }
    }

    private static void spoilsOfNoPiece() {
        Swarmhall hall = Halls.of(true, false);
        for (int piece : new int[] {-1, 12}) {
            Check.dueThrow("7: no such piece", INDEX, () -> hall.spoil(0, piece, true));
            Check.dueThrow("7: no such piece", INDEX, () -> hall.spoil(0, piece, false));
            Check.dueThrow("7: nor peer", INDEX, () -> hall.spoil(2, piece, true));
        }
        Check.due("7: also one that it does not hold", true, hall.spoil(1, 11, true));
        Check.due("8: all come right", 48, hall.run(20) + hall.run(20) + hall.run(20));
        Check.due("7: no piece is spoilt", Halls.ALL, hall.holds(1));
    }

    // ---- rounds

    private static void runFrom1To20() {
        for (int rounds = 1; rounds <= 20; rounds++) {
            Swarmhall hall = Halls.of(true, false);
            Check.due("8: run " + rounds, rounds, hall.run(rounds));
            Check.due("9: run " + rounds, rounds, hall.rounds());
        }
        Swarmhall hall = Halls.of(true, false);
        for (int rounds : new int[] {0, 21, -1, -20, 200, 201, Integer.MIN_VALUE, Integer.MAX_VALUE}) {
            Check.dueThrow("8: run " + rounds, ARGUMENT, () -> hall.run(rounds));
        }
        Check.due("9: none has run", 0, hall.rounds());
        Check.due("13: nothing has come", 0, hall.blocks(1, 0));
    }

    private static void runUpTo200() {
        for (int last = 1; last <= 20; last++) {
            Swarmhall hall = Halls.of(true, false);
            int left = last;
            for (int run = 200 - last; run > 0; run -= 20) {
                hall.run(Math.min(20, run));
            }
            Check.due("9: so many are left", 200 - last, hall.rounds());
            if (last < 20) {
                Check.dueThrow("8: one too many", STATE, () -> hall.run(left + 1));
                Check.dueThrow("8: twenty are too many", STATE, () -> hall.run(20));
            }
            Check.due("9: none of them has run", 200 - last, hall.rounds());
            Check.due("8: just 200", 0, hall.run(left));
            Check.due("9: 200", 200, hall.rounds());
            Check.dueThrow("8: one more", STATE, () -> hall.run(1));
        }
    }

    private static void runThrowsTheFirstOfBoth() {
        Swarmhall hall = new Swarmhall();
        for (int k = 0; k < 10; k++) {
            hall.run(20);
        }
        for (int rounds : new int[] {21, 201, Integer.MAX_VALUE, 0, -1, Integer.MIN_VALUE}) {
            Check.dueThrow("8: both are wrong", ARGUMENT, () -> hall.run(rounds));
        }
        Check.dueThrow("8: only the sum is", STATE, () -> hall.run(20));
        Check.due("9: still 200", 200, hall.rounds());
    }

    private static void runReturnsWhatComes() {
        Swarmhall none = Halls.of(true, true, true, true, true, true);
        Check.due("8: all hold all", 0, none.run(20));
        Swarmhall all = Halls.of(true, true, true, true, true, false);
        Check.due("8: five a round", 45, all.run(9));
        Check.due("8: the last three, without two doubles", 3, all.run(1));
        Check.due("18: the two", 2, all.doubles(5));
        Check.due("8: nothing is left", 0, all.run(1));
    }

    private static void rounds() {
        Swarmhall hall = new Swarmhall();
        for (int round = 0; round < 200; round++) {
            Check.due("9: the number of the next one", round, hall.rounds());
            hall.run(1);
        }
        Check.due("9: all have run", 200, hall.rounds());
    }

    // ---- questions

    private static void peers() {
        Swarmhall hall = new Swarmhall();
        for (int number = 0; number < Halls.PEERS; number++) {
            hall.join(false);
            Check.due("10: up to " + number, (2 << number) - 1, hall.peers());
        }
        for (int number = 0; number < Halls.PEERS; number++) {
            hall.leave(number);
            Check.due("10: from " + number, 63 & -(2 << number), hall.peers());
        }
    }

    private static void holdsAndLog() {
        Swarmhall hall = Halls.of(true, false);
        for (int round = 0; round <= 48; round++) {
            int want = (1 << round / 4) - 1;
            Check.due("11: round " + round, want, hall.holds(1));
            Check.due("12: round " + round, want, hall.holdsByLog(1));
            hall.run(1);
        }
        Check.due("11: no more", Halls.ALL, hall.holds(1));
        Check.due("12: no more", Halls.ALL, hall.holdsByLog(1));
        Check.due("12: nothing came to the seeder", Halls.ALL, hall.holdsByLog(0));
    }

    private static void logOfOneThatLeftOthers() {
        Swarmhall hall = Halls.of(true, true, false);
        hall.spoil(0, 0, true);
        hall.run(1);
        hall.leave(0);
        hall.spoil(1, 1, true);
        hall.run(2);
        Check.due("11: dropped", 0, hall.holds(2));
        Check.due("12: a wrong one of one that left", 0, hall.holdsByLog(2));
        hall.run(4);
        Check.due("11: the second time", 1, hall.holds(2));
        Check.due("12: the second time", 1, hall.holdsByLog(2));
    }

    private static void blocks() {
        Swarmhall hall = Halls.of(true, false);
        for (int piece = 0; piece < Halls.PIECES; piece++) {
            Check.due("13: a seeder", 15, hall.blocks(0, piece));
            for (int block = 0; block < 4; block++) {
                Check.due("13: before the block " + block, (1 << block) - 1, hall.blocks(1, piece));
                hall.run(1);
            }
            Check.due("13: held", 15, hall.blocks(1, piece));
        }
        for (int piece : new int[] {-1, 12}) {
            Check.dueThrow("13: no such piece", INDEX, () -> hall.blocks(1, piece));
            Check.dueThrow("13: nor peer", INDEX, () -> hall.blocks(2, piece));
        }
    }

    private static void holders() {
        Swarmhall hall = new Swarmhall();
        hall.join(false);
        Check.due("14: one that holds none", 0, hall.holders(0));
        for (int count = 1; count <= 5; count++) {
            hall.join(true);
            Check.due("14: seeders", count, hall.holders(11));
        }
        hall.run(1);
        Check.due("14: all hold it", 6, hall.holders(0));
        Check.due("14: the next one is begun", 5, hall.holders(1));
        for (int piece : new int[] {-1, 12}) {
            Check.dueThrow("14: no such piece", INDEX, () -> hall.holders(piece));
        }
    }

    private static void shown() {
        Swarmhall hall = Halls.of(true, true, true, true, true, true);
        for (int peer = 0; peer < Halls.PEERS; peer++) {
            for (int other = 0; other < Halls.PEERS; other++) {
                Check.due("15: all, but not to itself", peer == other ? 0 : Halls.ALL, hall.shown(peer, other));
            }
        }
        for (int peer = 0; peer < Halls.PEERS; peer++) {
            hall.setCareful(peer, true);
            for (int other = 0; other < Halls.PEERS; other++) {
                Check.due("15: a careful one has nothing to show", 0, hall.shown(peer, other));
            }
        }
    }

    private static void chosen() {
        Swarmhall hall = Halls.of(true, true, true, true, true, true);
        for (int peer = 0; peer < Halls.PEERS; peer++) {
            Check.due("16: nobody is interested", 0, hall.chosen(peer));
        }
        Check.due("16: nobody else is here", 0, Halls.of(true).chosen(0));
        Swarmhall asked = Halls.of(true, false, false, false, false, false);
        for (int round = 0; round < 6; round++) {
            int before = asked.chosen(0);
            Check.due("16: asking changes nothing", before, asked.chosen(0));
            asked.run(1);
            for (int peer = 1; peer < Halls.PEERS; peer++) {
                Check.due("16: they are chosen in the next round", before >> peer & 1, asked.got(peer, 0));
            }
        }
    }

    private static void got() {
        Swarmhall hall = Halls.of(true, false, true);
        Check.due("17: no round has run", 0, hall.got(1, 0));
        hall.run(20);
        Check.due("17: of the last one alone", 1, hall.got(1, 0));
        Check.due("17: of the last one alone", 1, hall.got(1, 2));
        Check.due("17: itself", 0, hall.got(1, 1));
        Check.due("17: it gave, and got none", 0, hall.got(0, 1));
        hall.run(4);
        Check.due("11: all", Halls.ALL, hall.holds(1));
        Check.due("17: in the last one too", 1, hall.got(1, 2));
        hall.run(1);
        Check.due("17: nothing came", 0, hall.got(1, 0) + hall.got(1, 2));
        Check.due("18: as many blocks as askings", 0, hall.doubles(1));
    }

    private static void doubles() {
        Swarmhall hall = Halls.of(true, true, false, false);
        Halls.wantOnly(hall, 0);
        hall.run(1);
        hall.leave(1);
        hall.run(1);
        Check.due("18: one that is left brings none", 0, hall.doubles(2));
        Check.due("13: three", 7, hall.blocks(2, 0));
        hall.join(true);
        hall.run(1);
        Check.due("18: one more brings one", 1, hall.doubles(2));
        Check.due("18: each for itself", 1, hall.doubles(3));
        Check.due("18: a seeder gets none", 0, hall.doubles(0));
        Check.due("17: a double is not counted", 0, hall.got(2, 4));
        hall.leave(2);
        Check.due("18: the other one's stays", 1, hall.doubles(3));
    }

    private static void strikes() {
        Swarmhall hall = Halls.of(true, true, false, false);
        hall.spoil(1, 0, true);
        hall.run(1);
        Check.due("19: not before it is full", 0, hall.strikes(2, 1));
        hall.run(1);
        for (int peer = 0; peer < 4; peer++) {
            for (int other = 0; other < 4; other++) {
                int want = peer >= 2 && other < 2 ? 1 : 0;
                Check.due("19: " + peer + " against " + other, want, hall.strikes(peer, other));
            }
        }
        int late = hall.join(false);
        Check.due("19: a new one has noted none", 0, hall.strikes(late, 0));
        Check.due("19: none is noted against it", 0, hall.strikes(2, late));
    }

    private static void isBanned() {
        Swarmhall hall = Halls.of(true, false, false, false, false, false);
        hall.leave(5);
        hall.leave(4);
        hall.leave(3);
        hall.spoil(0, 0, true);
        hall.run(4);
        for (int peer = 0; peer < 3; peer++) {
            for (int other = 0; other < 3; other++) {
                Check.due("20: " + peer + " has banned " + other, peer > 0 && other == 0, hall.isBanned(peer, other));
            }
        }
        hall.run(20);
        Check.due("20: for ever", true, hall.isBanned(2, 0));
    }

    private static void fiveHundredAndTwelveCalls() {
        Swarmhall hall = Halls.of(true, true, true, true, true, false);
        int calls = 6;
        for (int round = 1; round <= 200; round++) {
            hall.run(1);
            hall.holdsByLog(5);
            calls += 2;
        }
        for (; calls < 511; calls++) {
            Check.due("17: nothing comes any more", 0, hall.got(5, calls % 5));
        }
        Check.due("12: the 512th call", Halls.ALL, hall.holdsByLog(5));
    }

    private static void dueNoPeer(String why, Swarmhall hall, int peer) {
        int number = 0;
        for (PeerCall call : PEER_CALLS) {
            Check.dueThrow(why + ": " + peer + ", call " + number, INDEX, () -> call.answer(hall, peer));
            number++;
        }
    }
}
