import java.util.Arrays;

/**
 * A hall where peers share pieces: each of up to six peers shows the pieces that it holds, chooses a few others
 * that may have blocks of it, and asks those that chose it for one block each a round.
 *
 * Sets of peers, pieces and blocks are numbers: the bit n stands for the one with the number n.
 */
public final class Swarmhall {
    public static final int NONE = -1;

    private static final int MOST_PEERS = 6;
    private static final int PIECES = 12;
    private static final int BLOCKS_A_PIECE = 4;
    private static final int BLOCKS = PIECES * BLOCKS_A_PIECE;
    private static final int ALL_PIECES = (1 << PIECES) - 1;
    private static final int ALL_BLOCKS_OF_A_PIECE = (1 << BLOCKS_A_PIECE) - 1;
    private static final int FIRST_PRIORITY = 1;
    private static final int TOP_PRIORITY = 3;
    private static final int MOST_ROUNDS_A_CALL = 20;
    private static final int MOST_ROUNDS = 200;
    private static final int SLOTS_BY_MERIT = 2;
    private static final int STRIKES_TO_BAN = 3;

    /** By number; null where nobody has joined yet, and where one has left. */
    private final Peer[] present = new Peer[MOST_PEERS];
    private final int[] priorities = new int[PIECES];
    /** How many holders each piece had at the beginning of the round. */
    private final int[] holdersAtStart = new int[PIECES];
    private int joined = 0;
    private int roundsRun = 0;

    public Swarmhall() {
        Arrays.fill(priorities, FIRST_PRIORITY);
    }

    // ---- peers and rules

    public int join(boolean isSeeder) throws IllegalStateException {
        if (joined >= present.length) {
            throw new IllegalStateException("all peers have joined");
        }
        int number = joined;
        present[number] = new Peer(number, isSeeder ? ALL_PIECES : 0);
        joined++;
        return number;
    }

    public int leave(int peer) throws IndexOutOfBoundsException {
        Peer leaving = known(peer);
        present[leaving.number] = null;
        return Integer.bitCount(leaving.store.held);
    }

    public int setPriority(int piece, int priority) throws IndexOutOfBoundsException, IllegalArgumentException {
        checkPiece(piece);
        if (priority < 0 || priority > TOP_PRIORITY) {
            throw new IllegalArgumentException("no such priority");
        }
        int before = priorities[piece];
        priorities[piece] = priority;
        return before;
    }

    public boolean setSequence(int peer, boolean is) throws IndexOutOfBoundsException {
        Peer one = known(peer);
        boolean changes = one.inSequence != is;
        one.inSequence = is;
        return changes;
    }

    public boolean setCareful(int peer, boolean is) throws IndexOutOfBoundsException {
        Peer one = known(peer);
        boolean changes = one.careful != is;
        one.careful = is;
        return changes;
    }

    public boolean spoil(int peer, int piece, boolean is) throws IndexOutOfBoundsException {
        Peer one = known(peer);
        checkPiece(piece);
        boolean changes = isIn(one.spoiled, piece) != is;
        if (changes) {
            one.spoiled ^= 1 << piece;
        }
        return changes;
    }

    // ---- rounds

    public int run(int rounds) throws IllegalArgumentException, IllegalStateException {
        if (rounds < 1 || rounds > MOST_ROUNDS_A_CALL) {
            throw new IllegalArgumentException("no such number of rounds");
        }
        if (roundsRun + rounds > MOST_ROUNDS) {
            throw new IllegalStateException("too many rounds in all");
        }
        int come = 0;
        for (int round = 0; round < rounds; round++) {
            begin();
            askAll();
            come += comeAll();
            settleAll();
            roundsRun++;
        }
        return come;
    }

    public int rounds() {
        return roundsRun;
    }

    // ---- questions

    public int peers() {
        int set = 0;
        for (int number = 0; number < present.length; number++) {
            if (present[number] != null) {
                set |= 1 << number;
            }
        }
        return set;
    }

    public int holds(int peer) throws IndexOutOfBoundsException {
        return known(peer).store.held;
    }

    public int holdsByLog(int peer) throws IndexOutOfBoundsException {
        return known(peer).log.replayHeld();
    }

    public int blocks(int peer, int piece) throws IndexOutOfBoundsException {
        Store store = known(peer).store;
        checkPiece(piece);
        if (isIn(store.held, piece)) {
            return ALL_BLOCKS_OF_A_PIECE;
        }
        return (int) (store.has >> (piece * BLOCKS_A_PIECE)) & ALL_BLOCKS_OF_A_PIECE;
    }

    public int holders(int piece) throws IndexOutOfBoundsException {
        checkPiece(piece);
        return countHolders(piece);
    }

    public int shown(int peer, int other) throws IndexOutOfBoundsException {
        return findShown(known(peer), known(other));
    }

    public int chosen(int peer) throws IndexOutOfBoundsException {
        return findChosen(known(peer));
    }

    public int got(int peer, int other) throws IndexOutOfBoundsException {
        return known(peer).gotOf[known(other).number];
    }

    public int doubles(int peer) throws IndexOutOfBoundsException {
        return known(peer).doublesCome;
    }

    public int strikes(int peer, int other) throws IndexOutOfBoundsException {
        return known(peer).strikesAgainst[known(other).number];
    }

    public boolean isBanned(int peer, int other) throws IndexOutOfBoundsException {
        return isIn(known(peer).banned, known(other).number);
    }

    // ---- who and what there is

    private Peer known(int peer) {
        Peer found = find(peer);
        if (found == null) {
            throw new IndexOutOfBoundsException("no such peer");
        }
        return found;
    }

    private Peer find(int peer) {
        return peer < 0 || peer >= present.length ? null : present[peer];
    }

    private static void checkPiece(int piece) {
        if (piece < 0 || piece >= PIECES) {
            throw new IndexOutOfBoundsException("no such piece");
        }
    }

    private int countHolders(int piece) {
        int count = 0;
        for (Peer peer : present) {
            if (peer != null && isIn(peer.store.held, piece)) {
                count++;
            }
        }
        return count;
    }

    private int wantedPieces() {
        int set = 0;
        for (int piece = 0; piece < priorities.length; piece++) {
            if (priorities[piece] > 0) {
                set |= 1 << piece;
            }
        }
        return set;
    }

    private int findShown(Peer peer, Peer other) {
        if (peer == other) {
            return 0;
        }
        if (!peer.careful) {
            return peer.store.held;
        }
        int piece = findRarest(peer.store.held & ~other.store.held, other.number);
        return piece == NONE ? 0 : 1 << piece;
    }

    /** Of several with the fewest holders the first one from the piece `first` on. */
    private int findRarest(int pieces, int first) {
        int rarest = NONE;
        int fewest = 0;
        for (int step = 0; step < PIECES; step++) {
            int piece = (first + step) % PIECES;
            if (isIn(pieces, piece)) {
                int count = countHolders(piece);
                if (rarest == NONE || count < fewest) {
                    rarest = piece;
                    fewest = count;
                }
            }
        }
        return rarest;
    }

    // ---- slots

    private int findChosen(Peer peer) {
        int left = findInterested(peer);
        int chosen = 0;
        for (int slot = 0; slot < SLOTS_BY_MERIT; slot++) {
            int best = findBestGiver(peer, left);
            chosen |= single(best);
            left &= ~single(best);
        }
        return chosen | single(findNextInTurn(left));
    }

    private int findInterested(Peer peer) {
        int wanted = wantedPieces();
        int set = 0;
        for (Peer other : present) {
            if (other != null && other != peer && !isIn(other.banned, peer.number)
                    && (findShown(peer, other) & wanted & ~other.store.held) != 0) {
                set |= 1 << other.number;
            }
        }
        return set;
    }

    private static int findBestGiver(Peer peer, int candidates) {
        int best = NONE;
        int most = 0;
        for (int number = 0; number < peer.gotOf.length; number++) {
            if (isIn(candidates, number) && (best == NONE || peer.gotOf[number] > most)) {
                best = number;
                most = peer.gotOf[number];
            }
        }
        return best;
    }

    private int findNextInTurn(int candidates) {
        for (int step = 0; step < MOST_PEERS; step++) {
            int number = (roundsRun + step) % MOST_PEERS;
            if (isIn(candidates, number)) {
                return number;
            }
        }
        return NONE;
    }

    // ---- a round

    /** Finds what is shown, chosen and rare: it stands for the whole round. */
    private void begin() {
        for (int piece = 0; piece < holdersAtStart.length; piece++) {
            holdersAtStart[piece] = countHolders(piece);
        }
        for (Peer peer : present) {
            if (peer != null) {
                peer.asks.clear();
                peer.chosenNow = findChosen(peer);
                beginShowing(peer);
            }
        }
    }

    private void beginShowing(Peer peer) {
        for (Peer other : present) {
            if (other != null) {
                peer.shownNow[other.number] = findShown(peer, other);
            }
        }
    }

    private void askAll() {
        int wanted = wantedPieces();
        for (Peer peer : present) {
            if (peer != null) {
                askOthers(peer, wanted);
            }
        }
    }

    private void askOthers(Peer peer, int wanted) {
        long missing = blocksOf(wanted & ~peer.store.held) & ~peer.store.has;
        for (Peer other : present) {
            if (other != null && isIn(other.chosenNow, peer.number)) {
                askOne(peer, other, missing);
            }
        }
    }

    private void askOne(Peer peer, Peer other, long missing) {
        long offered = missing & blocksOf(other.shownNow[peer.number]);
        long fresh = offered & ~peer.asks.asked;
        if (fresh != 0) {
            int piece = findBestPiece(peer, fresh);
            peer.asks.add(findLowest(fresh & blocksOfPiece(piece)), other.number);
        } else if ((missing & ~peer.asks.asked) == 0 && offered != 0) {
            peer.asks.add(findLowest(offered), other.number);
        }
    }

    private int findBestPiece(Peer peer, long blocks) {
        int best = NONE;
        for (int piece = 0; piece < PIECES; piece++) {
            if ((blocks & blocksOfPiece(piece)) != 0 && (best == NONE || isBetter(peer, piece, best))) {
                best = piece;
            }
        }
        return best;
    }

    private boolean isBetter(Peer peer, int piece, int than) {
        boolean begun = isBegun(peer, piece);
        if (begun != isBegun(peer, than)) {
            return begun;
        }
        if (priorities[piece] != priorities[than]) {
            return priorities[piece] > priorities[than];
        }
        if (!peer.inSequence && holdersAtStart[piece] != holdersAtStart[than]) {
            return holdersAtStart[piece] < holdersAtStart[than];
        }
        return piece < than;
    }

    private static boolean isBegun(Peer peer, int piece) {
        return ((peer.store.has | peer.asks.asked) & blocksOfPiece(piece)) != 0;
    }

    private int comeAll() {
        int come = 0;
        for (Peer peer : present) {
            if (peer != null) {
                come += comeTo(peer);
            }
        }
        return come;
    }

    private int comeTo(Peer peer) {
        Arrays.fill(peer.gotOf, 0);
        int come = 0;
        for (int ask = 0; ask < peer.asks.count; ask++) {
            Peer sender = find(peer.asks.others[ask]);
            if (sender != null && comeOne(peer, sender, peer.asks.blocks[ask])) {
                come++;
            }
        }
        return come;
    }

    /** False if the block is a double. */
    private boolean comeOne(Peer peer, Peer sender, int block) {
        boolean isWrong = isIn(sender.spoiled, block / BLOCKS_A_PIECE);
        peer.log.add(roundsRun, block, isWrong);
        if (!peer.store.take(block, isWrong)) {
            peer.doublesCome++;
            return false;
        }
        peer.cameFrom[sender.number] |= 1L << block;
        peer.gotOf[sender.number]++;
        return true;
    }

    private void settleAll() {
        for (Peer peer : present) {
            if (peer != null) {
                settle(peer);
            }
        }
    }

    private static void settle(Peer peer) {
        for (int piece = 0; piece < PIECES; piece++) {
            if (peer.store.isComplete(piece)) {
                if (!peer.store.isSound(piece)) {
                    peer.blame(piece);
                }
                peer.forgetSenders(piece);
            }
        }
        peer.store.endPieces();
    }

    // ---- sets

    private static boolean isIn(long set, int number) {
        return (set >> number & 1) != 0;
    }

    /** The set of one number, or of none for NONE. */
    private static int single(int number) {
        return number == NONE ? 0 : 1 << number;
    }

    private static long blocksOfPiece(int piece) {
        return (long) ALL_BLOCKS_OF_A_PIECE << (piece * BLOCKS_A_PIECE);
    }

    private static long blocksOf(int pieces) {
        long set = 0;
        for (int piece = 0; piece < PIECES; piece++) {
            if (isIn(pieces, piece)) {
                set |= blocksOfPiece(piece);
            }
        }
        return set;
    }

    private static int findLowest(long set) {
        for (int block = 0; block < BLOCKS; block++) {
            if (isIn(set, block)) {
                return block;
            }
        }
        return NONE;
    }

    /** One who has joined; what it knows of others stands in rows by their numbers. */
    private static final class Peer {
        final int number;
        final Store store;
        final Log log;
        final Asks asks = new Asks();
        /** The pieces of which its blocks are wrong. */
        int spoiled = 0;
        boolean inSequence = false;
        boolean careful = false;
        /** The blocks of its store by the peer that they came from, also if that has left. */
        final long[] cameFrom = new long[MOST_PEERS];
        /** Blocks of the last round, without doubles. */
        final int[] gotOf = new int[MOST_PEERS];
        final int[] strikesAgainst = new int[MOST_PEERS];
        int banned = 0;
        int doublesCome = 0;
        /** The pieces shown to each other one in this round, and the peers chosen in it. */
        final int[] shownNow = new int[MOST_PEERS];
        int chosenNow = 0;

        Peer(int number, int held) {
            this.number = number;
            store = new Store(held);
            log = new Log(held);
        }

        /** Strikes those from which the blocks of a wrong piece came. */
        void blame(int piece) {
            long all = blocksOfPiece(piece);
            for (int other = 0; other < cameFrom.length; other++) {
                long part = cameFrom[other] & all;
                if (part != 0) {
                    strikesAgainst[other]++;
                    if (part == all || strikesAgainst[other] >= STRIKES_TO_BAN) {
                        banned |= 1 << other;
                    }
                }
            }
        }

        void forgetSenders(int piece) {
            for (int other = 0; other < cameFrom.length; other++) {
                cameFrom[other] &= ~blocksOfPiece(piece);
            }
        }
    }

    /** The pieces that one holds, and the blocks that it has of others. */
    private static final class Store {
        int held;
        long has = 0;
        /** Those of the blocks that are wrong. */
        long wrong = 0;

        Store(int held) {
            this.held = held;
        }

        /** Puts a block in; false if that is a double. */
        boolean take(int block, boolean isWrong) {
            if (isIn(has, block)) {
                return false;
            }
            has |= 1L << block;
            if (isWrong) {
                wrong |= 1L << block;
            }
            return true;
        }

        boolean isComplete(int piece) {
            return (~has & blocksOfPiece(piece)) == 0;
        }

        boolean isSound(int piece) {
            return (wrong & blocksOfPiece(piece)) == 0;
        }

        /** Complete pieces are held if they are sound; their blocks need no more room either way. */
        void endPieces() {
            for (int piece = 0; piece < PIECES; piece++) {
                if (isComplete(piece)) {
                    if (isSound(piece)) {
                        held |= 1 << piece;
                    }
                    has &= ~blocksOfPiece(piece);
                    wrong &= ~blocksOfPiece(piece);
                }
            }
        }
    }

    /** What one has asked for in a round, in this order: one block at the most of each other peer. */
    private static final class Asks {
        final int[] blocks = new int[MOST_PEERS];
        final int[] others = new int[MOST_PEERS];
        int count = 0;
        /** The same blocks as a set. */
        long asked = 0;

        void clear() {
            count = 0;
            asked = 0;
        }

        void add(int block, int other) {
            if (block != NONE && count < blocks.length) {
                blocks[count] = block;
                others[count] = other;
                count++;
                asked |= 1L << block;
            }
        }
    }

    /** All blocks that came to one, doubles too, each with its round and whether it is wrong. */
    private static final class Log {
        final int heldAtFirst;
        final int[] entries = new int[MOST_ROUNDS * (MOST_PEERS - 1)];
        int count = 0;

        Log(int heldAtFirst) {
            this.heldAtFirst = heldAtFirst;
        }

        void add(int round, int block, boolean isWrong) {
            if (count < entries.length) {
                entries[count] = (round * 2 + (isWrong ? 1 : 0)) * BLOCKS + block;
                count++;
            }
        }

        /** The rounds matter: a double is one only as long as its piece is not dropped. */
        int replayHeld() {
            Store store = new Store(heldAtFirst);
            int round = 0;
            for (int at = 0; at < count; at++) {
                int entry = entries[at];
                if (entry / (2 * BLOCKS) != round) {
                    store.endPieces();
                    round = entry / (2 * BLOCKS);
                }
                store.take(entry % BLOCKS, entry / BLOCKS % 2 == 1);
            }
            store.endPieces();
            return store.held;
        }
    }
}
