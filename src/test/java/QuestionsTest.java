/** Promises 10 to 20. */
public final class QuestionsTest {
    private static final Class<IndexOutOfBoundsException> INDEX = IndexOutOfBoundsException.class;
    /** Rounds that have run before the first block comes. */
    private static final int[] IDLE = {0, 1, 2, 3, 7, 100, 195, 196};

    public static void main(String[] args) {
        peers();
        holds();
        holdsByLog();
        logKnowsRounds();
        logKnowsWrongDoubles();
        blocks();
        holders();
        shown();
        shownByCareful();
        chosen();
        got();
        doubles();
        strikesAndBans();
        wrongNumbers();
        Check.end();
    }

    private static void peers() {
        Swarmhall hall = new Swarmhall();
        Check.due("10: nobody", 0, hall.peers());
        hall.join(false);
        hall.join(true);
        hall.join(false);
        Check.due("10: three", 7, hall.peers());
        hall.leave(1);
        Check.due("10: two", 5, hall.peers());
        hall.join(true);
        Check.due("10: a new number", 13, hall.peers());
    }

    private static void holds() {
        Swarmhall hall = Halls.of(true, false);
        Check.due("11: a seeder", Halls.ALL, hall.holds(0));
        Check.due("11: nothing yet", 0, hall.holds(1));
        hall.run(3);
        Check.due("11: not all blocks", 0, hall.holds(1));
        hall.run(1);
        Check.due("11: a piece", 1, hall.holds(1));
        hall.setPriority(11, 3);
        hall.run(4);
        Check.due("11: two pieces", Halls.set(0, 11), hall.holds(1));
        hall.run(20);
        hall.run(20);
        Check.due("11: all", Halls.ALL, hall.holds(1));
    }

    private static void holdsByLog() {
        Swarmhall hall = Halls.of(true, true, false);
        hall.spoil(0, 1, true);
        Check.due("12: a seeder", Halls.ALL, hall.holdsByLog(0));
        Check.due("12: nothing yet", 0, hall.holdsByLog(2));
        for (int round = 0; round < 40; round++) {
            hall.run(1);
            Check.due("12: round " + round, hall.holds(2), hall.holdsByLog(2));
        }
        Check.due("12: the first piece", 1, hall.holdsByLog(2));
        hall.leave(0);
        hall.join(true);
        hall.run(20);
        Check.due("12: with pieces of others", hall.holds(2), hall.holdsByLog(2));
        hall.run(20);
        hall.run(20);
        Check.due("12: all", Halls.ALL, hall.holdsByLog(2));
    }

    /** A double that comes in the round in which its piece is dropped is no block of the next try. */
    private static void logKnowsRounds() {
        for (int idle : IDLE) {
            Swarmhall hall = idleHall(idle);
            hall.spoil(0, 0, true);
            hall.run(2);
            Check.due("18: doubles", 2, hall.doubles(3));
            Check.due("13: dropped", 0, hall.blocks(3, 0));
            hall.spoil(0, 0, false);
            hall.run(1);
            Check.due("13: three blocks", 7, hall.blocks(3, 0));
            Check.due("12: not held", 0, hall.holdsByLog(3));
            hall.run(1);
            Check.due("12: held", 1, hall.holdsByLog(3));
        }
    }

    /** The same when the doubles are wrong, too. */
    private static void logKnowsWrongDoubles() {
        for (int idle : IDLE) {
            Swarmhall hall = idleHall(idle);
            for (int seeder = 0; seeder < 3; seeder++) {
                hall.spoil(seeder, 0, true);
            }
            hall.run(2);
            Check.due("18: doubles", 2, hall.doubles(3));
            for (int seeder = 0; seeder < 3; seeder++) {
                Check.due("20: not one brought all", false, hall.isBanned(3, seeder));
                hall.spoil(seeder, 0, false);
            }
            hall.run(1);
            Check.due("12: not held", 0, hall.holdsByLog(3));
            hall.run(1);
            Check.due("11: held", 1, hall.holds(3));
            Check.due("12: held", 1, hall.holdsByLog(3));
        }
    }

    /** So many rounds have run in which nothing was wanted; now 3 wants the piece 0 of 0, 1 and 2. */
    private static Swarmhall idleHall(int rounds) {
        Swarmhall hall = Halls.of(true, true, true, false);
        Halls.wantOnly(hall);
        for (int left = rounds; left > 0; left -= 20) {
            hall.run(Math.min(left, 20));
        }
        Halls.wantOnly(hall, 0);
        return hall;
    }

    private static void blocks() {
        Swarmhall hall = Halls.of(true, false);
        Check.due("13: a held piece", 15, hall.blocks(0, 11));
        Check.due("13: none", 0, hall.blocks(1, 0));
        hall.setPriority(11, 2);
        int[] due = {1, 3, 7, 15};
        for (int want : due) {
            hall.run(1);
            Check.due("13: in their order", want, hall.blocks(1, 11));
            Check.due("13: of another one", 0, hall.blocks(1, 10));
        }
        Check.due("13: held", 1 << 11, hall.holds(1));
    }

    private static void holders() {
        Swarmhall hall = Halls.of(true, true, false);
        Check.due("14: two", 2, hall.holders(0));
        hall.run(2);
        Check.due("14: three", 3, hall.holders(0));
        Check.due("14: still two", 2, hall.holders(1));
        hall.leave(1);
        Check.due("14: one left", 2, hall.holders(0));
        Check.due("14: one left", 1, hall.holders(11));
        for (int piece : new int[] {-1, 12, Integer.MIN_VALUE, Integer.MAX_VALUE}) {
            Check.dueThrow("14: piece " + piece, INDEX, () -> hall.holders(piece));
        }
    }

    private static void shown() {
        Swarmhall hall = Halls.of(true, false, false);
        Check.due("15: all", Halls.ALL, hall.shown(0, 1));
        Check.due("15: none", 0, hall.shown(1, 0));
        Check.due("15: itself", 0, hall.shown(0, 0));
        hall.run(4);
        Check.due("15: what it holds", 1, hall.shown(1, 0));
        Check.due("15: also what the other one holds", 1, hall.shown(1, 2));
        hall.setCareful(0, true);
        Check.due("15: itself", 0, hall.shown(0, 0));
    }

    private static void shownByCareful() {
        Swarmhall hall = Halls.of(true, false);
        Halls.wantOnly(hall, 2);
        hall.run(4);
        hall.setCareful(0, true);
        hall.setCareful(1, true);
        hall.join(false);
        hall.join(false);
        Check.due("15: from the number of the other one on", Halls.set(1), hall.shown(0, 1));
        Check.due("15: fewest holders before the order", Halls.set(3), hall.shown(0, 2));
        Check.due("15: from the number of the other one on", Halls.set(3), hall.shown(0, 3));
        Check.due("15: a careful one that is no seeder", Halls.set(2), hall.shown(1, 3));
        Check.due("15: none that the other one does not hold", 0, hall.shown(1, 0));
        Check.due("16: what is shown is not wanted", 0, hall.chosen(0));

        Swarmhall behind = Halls.of(true, false);
        behind.setPriority(0, 0);
        behind.run(20);
        behind.run(20);
        behind.run(4);
        behind.setCareful(0, true);
        Check.due("15: behind 11 comes 0", 1, behind.shown(0, 1));
        Check.due("15: to a seeder", 0, behind.shown(0, behind.join(true)));
    }

    private static void chosen() {
        Swarmhall hall = Halls.of(true, false, false, false, false);
        Check.due("16: three of four", Halls.set(1, 2, 3), hall.chosen(0));
        Check.due("16: nobody is interested", 0, hall.chosen(1));
        hall.run(4);
        Check.due("16: round 4", Halls.set(1, 2, 4), hall.chosen(0));
        Check.due("16: the only one without the piece 0", Halls.set(4), hall.chosen(1));
        hall.leave(2);
        Check.due("16: all three", Halls.set(1, 3, 4), hall.chosen(0));
        Check.dueThrow("16: one that left", INDEX, () -> hall.chosen(2));
        for (int k = 0; k < 9; k++) {
            hall.run(20);
        }
        hall.run(16);
        Check.due("16: nobody needs more", 0, hall.chosen(0));
    }

    private static void got() {
        Swarmhall hall = Halls.of(true, false);
        Check.due("17: before any round", 0, hall.got(1, 0));
        hall.run(5);
        Check.due("17: in the last round alone", 1, hall.got(1, 0));
        Check.due("17: the other way", 0, hall.got(0, 1));
        Check.due("17: itself", 0, hall.got(1, 1));
        hall.join(true);
        Check.due("17: of a new one", 0, hall.got(1, 2));
        Halls.wantOnly(hall);
        Check.due("17: until the next round", 1, hall.got(1, 0));
        hall.run(1);
        Check.due("17: nothing came", 0, hall.got(1, 0));

        Swarmhall dropped = Halls.of(true, false);
        dropped.spoil(0, 0, true);
        dropped.run(4);
        Check.due("17: dropped ones count", 1, dropped.got(1, 0));
    }

    private static void doubles() {
        Swarmhall hall = Halls.of(true, true, true, false);
        Check.due("18: none", 0, hall.doubles(3));
        Halls.wantOnly(hall, 4);
        hall.run(1);
        Check.due("18: none", 0, hall.doubles(3));
        hall.run(1);
        Check.due("18: two", 2, hall.doubles(3));
        Check.due("18: not of others", 0, hall.doubles(0));
        hall.run(3);
        Check.due("18: they stay", 2, hall.doubles(3));
    }

    private static void strikesAndBans() {
        Swarmhall hall = Halls.of(true, false, false);
        hall.spoil(0, 0, true);
        Check.due("19: none", 0, hall.strikes(1, 0));
        Check.due("20: none", false, hall.isBanned(1, 0));
        hall.run(4);
        Check.due("19: one", 1, hall.strikes(1, 0));
        Check.due("19: each for itself", 1, hall.strikes(2, 0));
        Check.due("19: itself", 0, hall.strikes(1, 1));
        Check.due("19: another one", 0, hall.strikes(1, 2));
        Check.due("20: yes", true, hall.isBanned(1, 0));
        Check.due("20: itself", false, hall.isBanned(1, 1));
        Check.due("20: another one", false, hall.isBanned(1, 2));
    }

    private static void wrongNumbers() {
        Swarmhall hall = Halls.of(true, false, false, true);
        hall.run(3);
        hall.leave(2);
        for (int wrong : new int[] {-1, 2, 4, 5, 6, Integer.MIN_VALUE, Integer.MAX_VALUE}) {
            Check.dueThrow("11: " + wrong, INDEX, () -> hall.holds(wrong));
            Check.dueThrow("12: " + wrong, INDEX, () -> hall.holdsByLog(wrong));
            Check.dueThrow("13: " + wrong, INDEX, () -> hall.blocks(wrong, 0));
            Check.dueThrow("15: " + wrong, INDEX, () -> hall.shown(wrong, 0));
            Check.dueThrow("15: other " + wrong, INDEX, () -> hall.shown(0, wrong));
            Check.dueThrow("15: both " + wrong, INDEX, () -> hall.shown(wrong, wrong));
            Check.dueThrow("16: " + wrong, INDEX, () -> hall.chosen(wrong));
            Check.dueThrow("17: " + wrong, INDEX, () -> hall.got(wrong, 0));
            Check.dueThrow("17: other " + wrong, INDEX, () -> hall.got(0, wrong));
            Check.dueThrow("18: " + wrong, INDEX, () -> hall.doubles(wrong));
            Check.dueThrow("19: " + wrong, INDEX, () -> hall.strikes(wrong, 0));
            Check.dueThrow("19: other " + wrong, INDEX, () -> hall.strikes(0, wrong));
            Check.dueThrow("20: " + wrong, INDEX, () -> hall.isBanned(wrong, 0));
            Check.dueThrow("20: other " + wrong, INDEX, () -> hall.isBanned(0, wrong));
        }
        for (int piece : new int[] {-1, 12, Integer.MIN_VALUE, Integer.MAX_VALUE}) {
            Check.dueThrow("13: piece " + piece, INDEX, () -> hall.blocks(0, piece));
        }
    }
}
