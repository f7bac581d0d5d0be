/**
 * Promise 8, which piece is asked for first: three pieces in all cases of begun or not, priority, holders, and in
 * sequence or not, asked of one peer alone.
 */
public final class BestPieceTest {
    private static final int[] PIECES = {0, 3, 5};
    private static final int[] PRIORITIES = {0, 1, 3};
    private static final int SPOILT = 11;
    private static final int ASKING = 3;
    private static final int GIVING = 4;
    private static final int KINDS = 27;

    /** By the places in PIECES. */
    private final boolean[] begun = new boolean[PIECES.length];
    private final int[] priorities = new int[PIECES.length];
    /** Besides the two seeders. */
    private final int[] holders = new int[PIECES.length];
    private final boolean inSequence;

    private BestPieceTest(int begunSet, int priorityKind, int holdersKind, boolean inSequence) {
        int divisor = 1;
        for (int k = 0; k < PIECES.length; k++, divisor *= 3) {
            begun[k] = (begunSet >> k & 1) != 0;
            priorities[k] = PRIORITIES[priorityKind / divisor % PRIORITIES.length];
            holders[k] = holdersKind / divisor % 3;
        }
        this.inSequence = inSequence;
    }

    public static void main(String[] args) {
        for (int begunSet = 0; begunSet < 1 << PIECES.length; begunSet++) {
            for (int priorityKind = 0; priorityKind < KINDS; priorityKind++) {
                for (int holdersKind = 0; holdersKind < KINDS; holdersKind++) {
                    new BestPieceTest(begunSet, priorityKind, holdersKind, false).check();
                    new BestPieceTest(begunSet, priorityKind, holdersKind, true).check();
                }
            }
        }
        Check.end();
    }

    private void check() {
        Swarmhall hall = oneGives();
        hall.setSequence(ASKING, inSequence);
        for (int k = 0; k < PIECES.length; k++) {
            if (begun[k]) {
                Halls.wantOnly(hall, PIECES[k]);
                hall.run(1);
            }
        }
        Halls.wantOnly(hall);
        for (int k = 0; k < PIECES.length; k++) {
            hall.setPriority(PIECES[k], priorities[k]);
            Check.due(this + ": holders", 2 + holders[k], hall.holders(PIECES[k]));
        }
        int best = best();
        hall.run(1);
        Check.due(this + ": one block", best < 0 ? 0 : 1, hall.got(ASKING, GIVING));
        for (int k = 0; k < PIECES.length; k++) {
            int count = (begun[k] ? 1 : 0) + (best == k ? 1 : 0);
            Check.due(this + ": the piece " + PIECES[k], (1 << count) - 1, hall.blocks(ASKING, PIECES[k]));
        }
    }

    /** The peers 0 and 4 hold all, 1 and 2 a few pieces; 3 holds none, and has banned 0, 1 and 2. */
    private Swarmhall oneGives() {
        Swarmhall hall = Halls.of(true, false);
        give(hall, 1);
        hall.join(false);
        give(hall, 2);
        Halls.wantOnly(hall, SPOILT);
        hall.run(4);
        hall.join(false);
        hall.spoil(0, SPOILT, true);
        hall.run(6);
        hall.join(true);
        for (int other = 0; other < ASKING; other++) {
            Check.due("banned: " + other, true, hall.isBanned(ASKING, other));
        }
        return hall;
    }

    /** Lets those who are here get the pieces that so many of them are due to hold. */
    private void give(Swarmhall hall, int count) {
        for (int k = 0; k < PIECES.length; k++) {
            if (holders[k] == count) {
                Halls.wantOnly(hall, PIECES[k]);
                hall.run(4);
            }
        }
    }

    private int best() {
        int best = -1;
        for (int k = 0; k < PIECES.length; k++) {
            if (priorities[k] > 0 && (best < 0 || weight(k) > weight(best))) {
                best = k;
            }
        }
        return best;
    }

    private int weight(int k) {
        int rare = inSequence ? 0 : 2 - holders[k];
        return ((begun[k] ? 1 : 0) * 10 + priorities[k]) * 10 + rare;
    }

    @Override
    public String toString() {
        StringBuilder text = new StringBuilder(inSequence ? "in sequence" : "by rareness");
        for (int k = 0; k < PIECES.length; k++) {
            text.append(", ").append(begun[k] ? "begun " : "").append(PIECES[k]);
            text.append(" priority ").append(priorities[k]).append(" holders ").append(holders[k]);
        }
        return text.toString();
    }
}
