/** Promises 8 and 9, with the terms of slots, asking and coming. */
public final class RoundsTest {
    private static final Class<IllegalArgumentException> ARGUMENT = IllegalArgumentException.class;
    private static final Class<IllegalStateException> STATE = IllegalStateException.class;

    public static void main(String[] args) {
        bounds();
        whatComes();
        slotsInTurns();
        slotsByMerit();
        bansEndInterest();
        lowestPieceAndBlock();
        begunIsBest();
        begunByAsking();
        priorityBeforeRare();
        rareFirst();
        sequence();
        lastBlocksAgain();
        notAgainBeforeAllAreAsked();
        banByAllFour();
        banByThreeStrikes();
        strikesForEachPiece();
        Check.end();
    }

    private static void bounds() {
        Swarmhall hall = Halls.of(true, false);
        for (int rounds : new int[] {0, -1, 21, Integer.MIN_VALUE, Integer.MAX_VALUE}) {
            Check.dueThrow("8: run " + rounds, ARGUMENT, () -> hall.run(rounds));
        }
        Check.due("9: none has run", 0, hall.rounds());
        Check.due("8: one round", 1, hall.run(1));
        Check.due("9: one has run", 1, hall.rounds());
        for (int k = 0; k < 9; k++) {
            hall.run(20);
        }
        Check.due("9: many have run", 181, hall.rounds());
        Check.dueThrow("8: over 200", STATE, () -> hall.run(20));
        Check.due("9: nothing is changed", 181, hall.rounds());
        Check.due("8: just 200", 0, hall.run(19));
        Check.due("9: 200", 200, hall.rounds());
        Check.dueThrow("8: one more", STATE, () -> hall.run(1));
        Check.dueThrow("8: an argument goes first", ARGUMENT, () -> hall.run(0));
        Check.dueThrow("8: an argument goes first", ARGUMENT, () -> hall.run(21));
        Check.due("9: still 200", 200, hall.rounds());
    }

    private static void whatComes() {
        Swarmhall hall = Halls.of(true, false, false);
        Check.due("8: one each a round", 6, hall.run(3));
        Check.due("8: dropped ones count", true, hall.spoil(0, 0, true));
        Check.due("8: dropped ones count", 2, hall.run(1));
        Check.due("8: they are dropped", 0, hall.blocks(1, 0));
        Check.due("8: nobody is left to ask", 0, hall.run(20));

        Swarmhall alone = Halls.of(true);
        Check.due("8: nobody asks", 0, alone.run(20));
        Check.due("8: nobody is here", 0, new Swarmhall().run(1));
    }

    private static void slotsInTurns() {
        Swarmhall hall = Halls.of(true, false, false, false, false, false);
        int[] third = {3, 3, 3, 3, 4, 5, 3, 3, 3, 3, 4, 5};
        for (int round = 0; round < third.length; round++) {
            Check.due("16: round " + round, Halls.set(1, 2, third[round]), hall.chosen(0));
            hall.setSequence(1, true);
            hall.run(1);
            Check.due("8: it is so in the round " + round, 1, hall.got(third[round], 0));
        }
        Swarmhall behind = Halls.of(false, false, false, false, false, true);
        Check.due("16: from 0 on", Halls.set(0, 1, 2), behind.chosen(5));
        behind.run(3);
        Check.due("16: from 3 on", Halls.set(0, 1, 3), behind.chosen(5));
        behind.run(2);
        Check.due("16: from 5 on, behind 5 comes 0", Halls.set(0, 1, 2), behind.chosen(5));
    }

    /** The peer 1 holds the piece 0; 2 and 3 hold none, and have banned 0; 4 and 5 hold the piece 1. */
    private static void slotsByMerit() {
        Swarmhall hall = Halls.of(true, false);
        Halls.wantOnly(hall, 0);
        hall.run(4);
        hall.join(false);
        hall.join(false);
        Halls.wantOnly(hall, 1);
        hall.spoil(0, 1, true);
        hall.run(4);
        Check.due("8: the piece 0", Halls.set(0), hall.holds(1));
        Check.due("20: 0 is banned", true, hall.isBanned(1, 0) && hall.isBanned(2, 0) && hall.isBanned(3, 0));
        hall.spoil(0, 1, false);
        hall.join(false);
        hall.join(false);
        hall.run(4);
        hall.leave(0);
        hall.setPriority(0, 1);
        Check.due("8: the piece 1", Halls.set(1), hall.holds(4) & hall.holds(5));
        Check.due("16: the lowest ones, then from 0 on", Halls.set(2, 3, 4), hall.chosen(1));
        hall.run(1);
        Check.due("17: of 4", 1, hall.got(1, 4));
        Check.due("17: of 5", 1, hall.got(1, 5));
        Check.due("16: by what it got, then from 1 on", Halls.set(4, 5, 2), hall.chosen(1));
    }

    private static void bansEndInterest() {
        Swarmhall hall = Halls.of(true, false, false);
        hall.spoil(0, 0, true);
        hall.run(4);
        hall.spoil(0, 0, false);
        Check.due("16: all have banned it", 0, hall.chosen(0));
        hall.join(false);
        Check.due("16: one has not", Halls.set(3), hall.chosen(0));
        Halls.wantOnly(hall);
        Check.due("16: nothing is wanted", 0, hall.chosen(0));
    }

    private static void lowestPieceAndBlock() {
        Swarmhall hall = Halls.of(true, false);
        for (int block = 0; block < 48; block++) {
            int piece = block / 4;
            hall.run(1);
            int want = (1 << (block % 4 + 1)) - 1;
            Check.due("8: block " + block, want, hall.blocks(1, piece));
            Check.due("8: held", (1 << (block + 1) / 4) - 1, hall.holds(1));
        }
    }

    private static void begunIsBest() {
        Swarmhall hall = Halls.of(true, false);
        hall.run(1);
        hall.setPriority(7, 3);
        hall.run(1);
        Check.due("8: the begun one goes on", 3, hall.blocks(1, 0));
        Check.due("8: before a higher priority", 0, hall.blocks(1, 7));
        hall.setPriority(0, 0);
        hall.run(1);
        Check.due("8: it is not wanted", 1, hall.blocks(1, 7));
        hall.setPriority(0, 1);
        hall.run(1);
        Check.due("8: of begun ones the priority tells", 3, hall.blocks(1, 7));
    }

    private static void begunByAsking() {
        Swarmhall hall = Halls.of(true, true, false);
        hall.setCareful(0, true);
        hall.run(1);
        Check.due("8: one that is asked for is begun", 3, hall.blocks(2, 2));
        Check.due("8: no other is begun", 0, hall.blocks(2, 0));
    }

    private static void priorityBeforeRare() {
        Swarmhall hall = Halls.of(true, false);
        hall.run(4);
        hall.join(false);
        hall.setPriority(0, 2);
        hall.run(1);
        Check.due("8: the priority before rare ones", 3, hall.blocks(2, 0));
        Check.due("8: the priority before rare ones", 0, hall.blocks(2, 1));
        hall.setPriority(1, 3);
        hall.join(false);
        hall.setSequence(3, true);
        hall.run(1);
        Check.due("8: the priority before the number", 1, hall.blocks(3, 1));
    }

    private static void rareFirst() {
        Swarmhall hall = Halls.of(true, false);
        hall.run(4);
        hall.join(false);
        hall.run(1);
        Check.due("8: the rare one of 0", 1, hall.blocks(2, 1));
        Check.due("8: the only one of 1", 1, hall.blocks(2, 0));
        hall.leave(0);
        Check.due("14: holders", 0, hall.holders(1));
    }

    private static void sequence() {
        Swarmhall hall = Halls.of(true, false);
        hall.run(4);
        hall.join(false);
        hall.setSequence(2, true);
        hall.run(1);
        Check.due("5: by numbers", 3, hall.blocks(2, 0));
        Check.due("5: not by rareness", 0, hall.blocks(2, 1));
    }

    private static void lastBlocksAgain() {
        Swarmhall hall = Halls.of(true, true, true, false);
        Halls.wantOnly(hall, 0);
        Check.due("8: doubles are not counted", 4, hall.run(2));
        Check.due("18: the last block comes of all three", 2, hall.doubles(3));
        Check.due("17: the first one brings it", 1, hall.got(3, 0));
        Check.due("17: the second one a double", 0, hall.got(3, 1));
        Check.due("17: the third one too", 0, hall.got(3, 2));
        Check.due("8: the piece is held", 1, hall.holds(3));
        hall.setPriority(5, 1);
        Check.due("8: four more", 4, hall.run(2));
        Check.due("18: doubles add up", 4, hall.doubles(3));

        Swarmhall five = Halls.of(true, true, true, true, true, false);
        Halls.wantOnly(five, 3);
        Check.due("8: a piece in a round", 4, five.run(1));
        Check.due("18: the fifth one brings a double", 1, five.doubles(5));
        Check.due("17: of 3", 1, five.got(5, 3));
        Check.due("17: of 4", 0, five.got(5, 4));
    }

    /** All careful ones show the piece 2 to the peer 2, so blocks of the piece 3 are not asked for. */
    private static void notAgainBeforeAllAreAsked() {
        Swarmhall hall = Halls.of(true, true, false, true);
        hall.setCareful(0, true);
        hall.setCareful(1, true);
        hall.setCareful(3, true);
        Halls.wantOnly(hall, 2, 3);
        Check.due("8: three and one", 4, hall.run(2));
        Check.due("18: none yet", 0, hall.doubles(2));
        Check.due("8: three and one", 4, hall.run(2));
        Check.due("18: at the end", 2, hall.doubles(2));
        Check.due("8: both are held", Halls.set(2, 3), hall.holds(2));
    }

    private static void banByAllFour() {
        Swarmhall hall = Halls.of(true, false);
        hall.spoil(0, 0, true);
        hall.run(3);
        Check.due("20: not yet", false, hall.isBanned(1, 0));
        hall.run(1);
        Check.due("20: all four", true, hall.isBanned(1, 0));
        Check.due("20: not the other way", false, hall.isBanned(0, 1));
        Check.due("19: one strike", 1, hall.strikes(1, 0));
        Check.due("19: not the other way", 0, hall.strikes(0, 1));
        Check.due("8: nothing more", 0, hall.run(5));
    }

    private static void banByThreeStrikes() {
        Swarmhall hall = Halls.of(true, true, false);
        Halls.wantOnly(hall, 0);
        hall.spoil(0, 0, true);
        for (int strikes = 1; strikes <= 3; strikes++) {
            Check.due("8: two rounds", 4, hall.run(2));
            Check.due("13: dropped", 0, hall.blocks(2, 0));
            Check.due("19: who spoils", strikes, hall.strikes(2, 0));
            Check.due("19: who does not", strikes, hall.strikes(2, 1));
            Check.due("20: who spoils", strikes == 3, hall.isBanned(2, 0));
            Check.due("20: who does not", strikes == 3, hall.isBanned(2, 1));
        }
        Check.due("8: nobody is left to ask", 0, hall.run(5));
    }

    private static void strikesForEachPiece() {
        Swarmhall hall = Halls.of(true, true, false);
        hall.setCareful(0, true);
        hall.spoil(0, 2, true);
        hall.spoil(0, 3, true);
        Halls.wantOnly(hall, 2, 3);
        hall.run(2);
        Check.due("19: one piece of both", 1, hall.strikes(2, 0));
        Check.due("19: one piece of both", 1, hall.strikes(2, 1));
        hall.leave(1);
        hall.run(4);
        Check.due("19: one strike a piece", 2, hall.strikes(2, 0));
        Check.due("20: all four of the second one", true, hall.isBanned(2, 0));
    }
}
