/** Each sentence of the document's terms that names an edge, by a test of its own, in the document's order. */
public final class EdgesOfTermsTest {
    private static final Class<IndexOutOfBoundsException> INDEX = IndexOutOfBoundsException.class;
    private static final Class<IllegalArgumentException> ARGUMENT = IllegalArgumentException.class;
    private static final Class<IllegalStateException> STATE = IllegalStateException.class;

    public static void main(String[] args) {
        piecesFrom0To11();
        fourBlocksEach();
        blocksOfThePieceP();
        sixPeersInAll();
        numbersAreNotGivenAgain();
        prioritiesFrom0To3();
        priority1AtFirst();
        priority0IsNotWantedByAnybody();
        seederHoldsAllOthersNone();
        showsAllThatItHoldsToEachOther();
        carefulShowsJustOne();
        carefulShowsNoneIfThereIsNone();
        carefulShowsTheRarest();
        carefulFromTheNumberOfTheOther();
        behindThePiece11Comes0();
        holdersArePeersHere();
        interestedInWhatItWantsAndDoesNotHold();
        notInterestedInBannedOnes();
        slotsForNoneToFive();
        lowestOfSeveral();
        remainderOfTheRound();
        behind5Comes0();
        turnPassesNobodyTwice();
        mostBlocksInTheRoundBefore();
        mostBlocksOfSeveral();
        oneBlockOfEachThatChose();
        onlyThoseThatChose();
        rarestWhereverItStands();
        onceMoreOnlyIfAllAreAsked();
        onceMoreNotWhileOneIsNotShown();
        onceMoreWithoutUnwantedOnes();
        onceMoreOfWhatEachShows();
        allBlocksButOneMakeNoPiece();
        oneWrongBlockDropsAll();
        droppedPiecesComeAgain();
        droppedBlocksBlameNobodyAgain();
        droppedBlocksDoNotBan();
        threeOfFourAreNoBan();
        allFourAreABan();
        twoStrikesAreNoBan();
        strikesGoOnBehindABan();
        thirdStrikeBehindABan();
        Check.end();
    }

    // ---- pieces, peers, priorities

    private static void piecesFrom0To11() {
        Swarmhall hall = Halls.of(true);
        for (int piece : new int[] {0, 11}) {
            Check.due("piece " + piece, 1, hall.setPriority(piece, 1));
            Check.due("piece " + piece, true, hall.spoil(0, piece, true));
            Check.due("piece " + piece, 15, hall.blocks(0, piece));
            Check.due("piece " + piece, 1, hall.holders(piece));
        }
        for (int piece : new int[] {-1, 12, -12, 16, 31, 32, 43, 64, Integer.MIN_VALUE, Integer.MAX_VALUE}) {
            Check.dueThrow("piece " + piece, INDEX, () -> hall.setPriority(piece, 1));
            Check.dueThrow("piece " + piece, INDEX, () -> hall.spoil(0, piece, true));
            Check.dueThrow("piece " + piece, INDEX, () -> hall.blocks(0, piece));
            Check.dueThrow("piece " + piece, INDEX, () -> hall.holders(piece));
        }
    }

    private static void fourBlocksEach() {
        Swarmhall hall = Halls.of(true, false);
        Halls.wantOnly(hall, 6);
        Check.due("four blocks, no more", 4, hall.run(20));
        Check.due("a whole piece", Halls.set(6), hall.holds(1));
    }

    private static void blocksOfThePieceP() {
        Swarmhall hall = Halls.of(true, false);
        for (int piece : new int[] {0, 11}) {
            Halls.wantOnly(hall, piece);
            for (int block = 0; block < 4; block++) {
                hall.run(1);
                for (int other = 1; other < 11; other++) {
                    Check.due("no block of the piece " + other, 0, hall.blocks(1, other));
                }
                Check.due("the lowest blocks of the piece " + piece, (2 << block) - 1, hall.blocks(1, piece));
            }
        }
        Check.due("the first and the last piece", Halls.set(0, 11), hall.holds(1));
    }

    private static void sixPeersInAll() {
        Swarmhall hall = new Swarmhall();
        for (int number = 0; number < 6; number++) {
            Check.due("in the order in which they join", number, hall.join(false));
        }
        Check.dueThrow("a seventh one", STATE, () -> hall.join(false));
        Check.dueThrow("a seventh one", STATE, () -> hall.join(true));
        Check.due("six are here", 63, hall.peers());
    }

    private static void numbersAreNotGivenAgain() {
        Swarmhall hall = new Swarmhall();
        for (int number = 0; number < 6; number++) {
            Check.due("the next number", number, hall.join(true));
            hall.leave(number);
        }
        Check.due("nobody is here", 0, hall.peers());
        Check.dueThrow("six have joined, though none is here", STATE, () -> hall.join(true));
    }

    private static void prioritiesFrom0To3() {
        Swarmhall hall = new Swarmhall();
        for (int piece = 0; piece < Halls.PIECES; piece++) {
            int of = piece;
            hall.setPriority(of, 0);
            Check.due("0 is taken", 0, hall.setPriority(of, 3));
            Check.due("3 is taken", 3, hall.setPriority(of, 2));
            Check.dueThrow("-1 is not", ARGUMENT, () -> hall.setPriority(of, -1));
            Check.dueThrow("4 is not", ARGUMENT, () -> hall.setPriority(of, 4));
            Check.due("it is as it was", 2, hall.setPriority(of, 2));
        }
    }

    private static void priority1AtFirst() {
        Swarmhall hall = new Swarmhall();
        for (int piece = 0; piece < Halls.PIECES; piece++) {
            Check.due("1 at first", 1, hall.setPriority(piece, 1));
        }
    }

    private static void priority0IsNotWantedByAnybody() {
        Swarmhall hall = Halls.of(true, true, false, false);
        hall.run(1);
        Halls.wantOnly(hall);
        Check.due("nobody is interested", 0, hall.chosen(0) | hall.chosen(1));
        Check.due("nothing comes, not even of a begun piece", 0, hall.run(1));
        Check.due("what one has stays", 3, hall.blocks(2, 0));
        hall.setPriority(11, 1);
        Check.due("both are interested", Halls.set(2, 3), hall.chosen(0));
        Check.due("only the wanted one comes", 8, hall.run(20));
        Check.due("the begun one stays as it is", 3, hall.blocks(3, 0));
    }

    private static void seederHoldsAllOthersNone() {
        Swarmhall hall = Halls.of(true, false);
        Check.due("a seeder", Halls.ALL, hall.holds(0));
        Check.due("another one", 0, hall.holds(1));
        hall.run(20);
        hall.run(20);
        hall.run(8);
        Check.due("it has got all", Halls.ALL, hall.holds(1));
        hall.join(false);
        Check.due("a late one holds none", 0, hall.holds(2));
        hall.join(true);
        Check.due("a late seeder holds all", Halls.ALL, hall.holds(3));
    }

    // ---- what is shown

    private static void showsAllThatItHoldsToEachOther() {
        Swarmhall hall = Halls.of(true, false, true);
        Check.due("to one that holds none", Halls.ALL, hall.shown(0, 1));
        Check.due("to one that holds all", Halls.ALL, hall.shown(0, 2));
        Check.due("one that holds none", 0, hall.shown(1, 0));
        Check.due("not to itself", 0, hall.shown(0, 0));
        Halls.wantOnly(hall);
        Check.due("what is not wanted, too", Halls.ALL, hall.shown(0, 1));
    }

    private static void carefulShowsJustOne() {
        Swarmhall hall = Halls.of(true, false);
        hall.setCareful(0, true);
        for (int block = 0; block < 48; block++) {
            Check.due("one piece, before the block " + block, 1, Integer.bitCount(hall.shown(0, 1)));
            hall.run(1);
        }
        Check.due("until the last one is held", Halls.ALL, hall.holds(1));
    }

    private static void carefulShowsNoneIfThereIsNone() {
        Swarmhall hall = Halls.of(true, true, false);
        hall.setCareful(0, true);
        hall.setCareful(2, true);
        Check.due("the other one holds all", 0, hall.shown(0, 1));
        Check.due("it holds none itself", 0, hall.shown(2, 0));
        Check.due("both", 0, hall.shown(2, 1));
        Check.due("itself", 0, hall.shown(0, 0) | hall.shown(2, 2));
        Halls.wantOnly(hall);
        Check.due("not wanted, but shown", Halls.set(2), hall.shown(0, 2));
    }

    private static void carefulShowsTheRarest() {
        Swarmhall hall = Halls.of(true, false);
        for (int piece = 0; piece < 11; piece++) {
            Halls.wantOnly(hall, piece);
            hall.run(4);
        }
        hall.join(false);
        hall.setCareful(0, true);
        hall.setCareful(1, true);
        Check.due("the last one in the order", Halls.set(11), hall.shown(0, 2));
        Check.due("of its own: all alike", Halls.set(2), hall.shown(1, 2));
        hall.leave(1);
        Check.due("holders are those here", Halls.set(2), hall.shown(0, 2));
    }

    private static void carefulFromTheNumberOfTheOther() {
        Swarmhall hall = Halls.of(false, true, false, false, false, false);
        hall.setCareful(1, true);
        for (int other : new int[] {0, 2, 3, 4, 5}) {
            Check.due("from " + other + " on", Halls.set(other), hall.shown(1, other));
        }
        Halls.wantOnly(hall, 5);
        Check.due("it is not wanted", Halls.set(5), hall.chosen(1));
    }

    private static void behindThePiece11Comes0() {
        Swarmhall hall = Halls.of(true, false);
        hall.setCareful(0, true);
        for (int piece = 1; piece < 12; piece++) {
            Check.due("from 1 on", Halls.set(piece), hall.shown(0, 1));
            hall.run(4);
        }
        Check.due("all but 0", Halls.ALL - 1, hall.holds(1));
        Check.due("behind 11 comes 0", Halls.set(0), hall.shown(0, 1));
        hall.run(4);
        Check.due("behind all comes nothing", 0, hall.shown(0, 1));
        Check.due("all", Halls.ALL, hall.holds(1));
    }

    private static void holdersArePeersHere() {
        Swarmhall hall = new Swarmhall();
        Check.due("nobody is here", 0, hall.holders(0));
        for (int number = 0; number < 6; number++) {
            hall.join(true);
            Check.due("all hold it", number + 1, hall.holders(11));
        }
        for (int number = 5; number >= 0; number--) {
            hall.leave(number);
            Check.due("those that left are no holders", number, hall.holders(11));
        }
        Swarmhall begun = Halls.of(true, false);
        begun.run(3);
        Check.due("three blocks make no holder", 1, begun.holders(0));
        begun.run(1);
        Check.due("four do", 2, begun.holders(0));
    }

    // ---- interest and slots

    private static void interestedInWhatItWantsAndDoesNotHold() {
        Swarmhall hall = Halls.of(true, true, false);
        Check.due("seeders need nothing", Halls.set(2), hall.chosen(0));
        Check.due("one that holds none shows none", 0, hall.chosen(2));
        hall.run(20);
        hall.run(3);
        Check.due("two blocks are missing", 11, Integer.bitCount(hall.holds(2)));
        Check.due("the last piece", Halls.set(2), hall.chosen(0));
        Check.due("what it needs is not shown by itself", 0, hall.chosen(2));
        hall.setPriority(11, 0);
        Check.due("it is not wanted", 0, hall.chosen(0));
        hall.setPriority(11, 1);
        hall.run(1);
        Check.due("it holds all", 0, hall.chosen(0));

        Swarmhall careful = Halls.of(true, false);
        careful.setCareful(0, true);
        careful.setPriority(1, 0);
        Check.due("the one that is shown is not wanted", 0, careful.chosen(0));
        Check.due("so nothing comes", 0, careful.run(1));
    }

    private static void notInterestedInBannedOnes() {
        Swarmhall hall = Halls.of(true, false, true);
        hall.leave(2);
        hall.spoil(0, 0, true);
        hall.run(4);
        Check.due("banned", true, hall.isBanned(1, 0));
        Check.due("it is still shown all", Halls.ALL, hall.shown(0, 1));
        Check.due("but it is not chosen", 0, hall.chosen(0));
        hall.spoil(0, 0, false);
        Check.due("nor when it spoils no more", 0, hall.run(20));
    }

    private static void slotsForNoneToFive() {
        int[][] due = {{}, {1}, {1, 2}, {1, 2, 3}, {1, 2, 3}, {1, 2, 3}};
        for (int others = 0; others <= 5; others++) {
            Swarmhall hall = Halls.of(true);
            for (int number = 1; number <= others; number++) {
                hall.join(false);
            }
            Check.due("slots with " + others, Halls.set(due[others]), hall.chosen(0));
            Check.due("as many blocks come", due[others].length, hall.run(1));
        }
    }

    private static void lowestOfSeveral() {
        Swarmhall hall = Halls.of(false, false, false, false, false, true);
        Check.due("0 and 1, also if it got none of them", Halls.set(0, 1), hall.chosen(5) & Halls.set(0, 1));
        hall.leave(0);
        Check.due("1 and 2 when 0 has left", Halls.set(1, 2), hall.chosen(5) & Halls.set(1, 2));
        hall.leave(2);
        Check.due("all three that are left", Halls.set(1, 3, 4), hall.chosen(5));
    }

    private static void remainderOfTheRound() {
        int[] third = {3, 3, 3, 3, 4, 5};
        for (int round = 0; round <= 20; round++) {
            Swarmhall hall = Halls.of(false, false, true, false, false, false);
            idle(hall, round);
            Check.due("round " + round, Halls.set(0, 1, third[round % 6]), hall.chosen(2));
        }
        for (int round = 195; round <= 199; round++) {
            Swarmhall hall = Halls.of(false, false, true, false, false, false);
            idle(hall, round);
            Check.due("round " + round, Halls.set(0, 1, third[round % 6]), hall.chosen(2));
            Check.due("in the last rounds too", 3, hall.run(1));
            Check.due("in the last rounds too", 1, hall.got(third[round % 6], 2));
        }
    }

    private static void behind5Comes0() {
        Swarmhall hall = Halls.of(false, false, false, false, false, true);
        idle(hall, 4);
        Check.due("4 is there", Halls.set(0, 1, 4), hall.chosen(5));
        idle(hall, 1);
        Check.due("from 5 on, 0 and 1 have slots", Halls.set(0, 1, 2), hall.chosen(5));
        hall.leave(2);
        Check.due("and 2 has left", Halls.set(0, 1, 3), hall.chosen(5));
    }

    /** The peer whose turn it is has a slot by merit already: the next one behind it has the third. */
    private static void turnPassesNobodyTwice() {
        Swarmhall hall = Halls.of(false, false, false, false, true, false);
        Check.due("0 has one", Halls.set(0, 1, 2), hall.chosen(4));
        idle(hall, 1);
        Check.due("1 has one", Halls.set(0, 1, 2), hall.chosen(4));
        idle(hall, 2);
        Check.due("3 has none", Halls.set(0, 1, 3), hall.chosen(4));
        idle(hall, 1);
        Check.due("4 is the one that chooses", Halls.set(0, 1, 5), hall.chosen(4));
    }

    /** The peer 1 holds the piece 0, which all others want; 4 and 5 hold the piece 1, which 1 wants. */
    private static void mostBlocksInTheRoundBefore() {
        Swarmhall hall = Halls.of(true, false);
        Halls.wantOnly(hall, 0);
        hall.run(4);
        hall.join(false);
        hall.join(false);
        Halls.wantOnly(hall, 1);
        hall.spoil(0, 1, true);
        hall.run(4);
        hall.spoil(0, 1, false);
        hall.join(false);
        hall.join(false);
        hall.run(4);
        hall.leave(0);
        hall.setPriority(0, 1);
        hall.run(1);
        Check.due("4 and 5 gave", 2, hall.got(1, 4) + hall.got(1, 5));
        Check.due("so they are first", Halls.set(4, 5, 2), hall.chosen(1));
        idle(hall, 1);
        hall.setPriority(0, 1);
        Check.due("the round before that does not count", Halls.set(2, 3, 4), hall.chosen(1));
    }

    /** The peer 1 holds the piece 0, which all others want; 2, 3 and 4 hold the piece 1, which 1 wants. */
    private static void mostBlocksOfSeveral() {
        Swarmhall hall = Halls.of(true, false);
        Halls.wantOnly(hall, 0);
        hall.run(4);
        Halls.wantOnly(hall, 1);
        hall.spoil(0, 1, true);
        hall.run(4);
        hall.spoil(0, 1, false);
        hall.join(false);
        hall.join(false);
        hall.join(false);
        hall.run(4);
        hall.leave(0);
        hall.join(false);
        idle(hall, 3);
        Halls.wantOnly(hall, 0, 1);
        hall.run(1);
        Check.due("2, 3 and 4 gave", 3, hall.got(1, 2) + hall.got(1, 3) + hall.got(1, 4));
        Check.due("of three alike the lowest two, then from 4 on", Halls.set(2, 3, 4), hall.chosen(1));
        hall.run(1);
        Check.due("2 gave the last block", 1, hall.got(1, 2));
        Check.due("3 and 4 gave doubles", 2, hall.doubles(1));
        Check.due("the one that gave, the lowest one of those that did not, then from 5 on", Halls.set(2, 3, 5),
                hall.chosen(1));
    }

    // ---- asking

    private static void oneBlockOfEachThatChose() {
        for (int seeders = 0; seeders <= 5; seeders++) {
            Swarmhall hall = new Swarmhall();
            for (int number = 0; number < seeders; number++) {
                hall.join(true);
            }
            int peer = hall.join(false);
            Check.due("of " + seeders, seeders, hall.run(1));
            for (int number = 0; number < seeders; number++) {
                Check.due("one of each", 1, hall.got(peer, number));
            }
            Check.due("the piece 0 first", (1 << Math.min(seeders, 4)) - 1, hall.blocks(peer, 0));
            Check.due("the fifth one is of the next piece", seeders == 5 ? 1 : 0, hall.blocks(peer, 1));
        }
    }

    private static void onlyThoseThatChose() {
        Swarmhall hall = Halls.of(true, false, false, false, false, false);
        Check.due("three of five", 3, hall.run(1));
        for (int peer = 1; peer <= 5; peer++) {
            Check.due("chosen or not: " + peer, peer <= 3 ? 1 : 0, hall.got(peer, 0));
        }
    }

    /** The peer 1 holds all but one piece, so that one has fewer holders than those before and behind it. */
    private static void rarestWhereverItStands() {
        for (int rare = 0; rare < Halls.PIECES; rare++) {
            Swarmhall hall = Halls.of(true, false);
            hall.setPriority(rare, 0);
            Check.due("all but one", 44, hall.run(20) + hall.run(20) + hall.run(4));
            hall.setPriority(rare, 1);
            hall.join(false);
            hall.run(1);
            Check.due("the rare one of 0: " + rare, 1, hall.blocks(2, rare));
            Check.due("another one of 1", 1, hall.blocks(2, rare == 0 ? 1 : 0));
        }
    }

    private static void onceMoreOnlyIfAllAreAsked() {
        Swarmhall two = Halls.of(true, true, false);
        Halls.wantOnly(two, 0);
        two.run(2);
        Check.due("as many blocks as choosers", 0, two.doubles(2));
        Swarmhall three = Halls.of(true, true, true, false);
        Halls.wantOnly(three, 0);
        three.run(1);
        Check.due("more blocks than choosers", 0, three.doubles(3));
        Check.due("fewer blocks than choosers", 1, three.run(1));
        Check.due("then each one more brings a double", 2, three.doubles(3));
        Swarmhall one = Halls.of(true, false);
        one.run(20);
        one.run(20);
        one.run(20);
        Check.due("one alone is asked for the last block once", 0, one.doubles(1));
    }

    private static void onceMoreNotWhileOneIsNotShown() {
        Swarmhall hall = threeWithThePiece0();
        Check.due("three of the piece 0", 3, hall.run(1));
        Check.due("the last one of it", 1, hall.run(1));
        Check.due("the piece 1 is wanted, but not asked for", 0, hall.doubles(4));
    }

    private static void onceMoreWithoutUnwantedOnes() {
        Swarmhall hall = threeWithThePiece0();
        hall.setPriority(1, 0);
        Check.due("three of the piece 0", 3, hall.run(1));
        Check.due("the last one of it", 1, hall.run(1));
        Check.due("nothing else is wanted", 2, hall.doubles(4));
    }

    /** One block of the piece 0 and one of the piece 1 are missing; the fourth one to be asked shows only 1. */
    private static void onceMoreOfWhatEachShows() {
        Swarmhall hall = Halls.of(true, false);
        Halls.wantOnly(hall, 0);
        hall.run(3);
        Halls.wantOnly(hall, 1);
        hall.run(3);
        for (int seeder = 2; seeder <= 4; seeder++) {
            hall.join(true);
        }
        hall.setCareful(4, true);
        Halls.wantOnly(hall, 0, 1);
        Check.due("the fourth one shows the piece 1 alone", Halls.set(1), hall.shown(4, 1));
        Check.due("0 and 2 bring the last two", 2, hall.run(1));
        Check.due("0 does", 1, hall.got(1, 0));
        Check.due("2 does", 1, hall.got(1, 2));
        Check.due("3 and 4 bring them once more", 2, hall.doubles(1));
        Check.due("both are held", Halls.set(0, 1), hall.holds(1));
    }

    // ---- coming

    private static void allBlocksButOneMakeNoPiece() {
        Swarmhall hall = Halls.of(true, false);
        Check.due("three blocks", 3, hall.run(3));
        Check.due("are no piece", 0, hall.holds(1));
        Check.due("are kept", 7, hall.blocks(1, 0));
        Check.due("the fourth one", 1, hall.run(1));
        Check.due("makes it", 1, hall.holds(1));
        Check.due("and it is shown", 1, hall.shown(1, 0));
    }

    private static void oneWrongBlockDropsAll() {
        for (int wrong = 0; wrong < 4; wrong++) {
            Swarmhall hall = Halls.of(true, false);
            for (int block = 0; block < 4; block++) {
                hall.spoil(0, 0, block == wrong);
                Check.due("a wrong one counts as come", 1, hall.run(1));
                Check.due("and is had until the last one comes", block == 3 ? 0 : (2 << block) - 1,
                        hall.blocks(1, 0));
            }
            Check.due("the block " + wrong + " is wrong", 0, hall.holds(1));
            Check.due("and by the log", 0, hall.holdsByLog(1));
            Check.due("a strike", 1, hall.strikes(1, 0));
        }
    }

    private static void droppedPiecesComeAgain() {
        Swarmhall hall = Halls.of(true, true, true, false);
        Halls.wantOnly(hall, 0);
        hall.spoil(2, 0, true);
        Check.due("dropped", 4, hall.run(2));
        Check.due("nothing is had", 0, hall.blocks(3, 0));
        hall.leave(2);
        Check.due("all four again", 4, hall.run(20));
        Check.due("now it is held", 1, hall.holds(3));
    }

    private static void droppedBlocksBlameNobodyAgain() {
        Swarmhall hall = Halls.of(true, false);
        Halls.wantOnly(hall, 0);
        hall.spoil(0, 0, true);
        hall.run(4);
        hall.join(true);
        hall.spoil(2, 0, true);
        Check.due("once more, of another one", 4, hall.run(4));
        Check.due("a strike against that", 1, hall.strikes(1, 2));
        Check.due("none against the one before", 1, hall.strikes(1, 0));
    }

    /** At first 1 brings the blocks 1 and 3, the second time 0 and 2. */
    private static void droppedBlocksDoNotBan() {
        Swarmhall hall = Halls.of(true, true, false);
        Halls.wantOnly(hall, 0);
        hall.spoil(0, 0, true);
        hall.run(2);
        hall.leave(0);
        hall.join(true);
        hall.spoil(3, 0, true);
        Check.due("once more", 4, hall.run(2));
        Check.due("a strike each time", 2, hall.strikes(2, 1));
        Check.due("all four came from it, but not at one time", false, hall.isBanned(2, 1));
        Check.due("a strike for the new one", 1, hall.strikes(2, 3));
    }

    private static void threeOfFourAreNoBan() {
        Swarmhall hall = Halls.of(true, true, false);
        hall.spoil(0, 0, true);
        hall.run(1);
        hall.leave(1);
        hall.run(2);
        Check.due("a strike", 1, hall.strikes(2, 0));
        Check.due("three came from it", false, hall.isBanned(2, 0));
    }

    private static void allFourAreABan() {
        Swarmhall hall = Halls.of(true, false);
        hall.spoil(0, 0, true);
        hall.run(3);
        Check.due("not before the last one", false, hall.isBanned(1, 0));
        Check.due("nor a strike", 0, hall.strikes(1, 0));
        hall.spoil(0, 0, false);
        hall.run(1);
        Check.due("all four came from it, though one was right", true, hall.isBanned(1, 0));
        Check.due("with one strike", 1, hall.strikes(1, 0));
    }

    private static void twoStrikesAreNoBan() {
        Swarmhall hall = Halls.of(true, true, false);
        for (int piece = 0; piece < 3; piece++) {
            Halls.wantOnly(hall, piece);
            hall.spoil(1, piece, true);
            for (int other = 0; other < 2; other++) {
                Check.due("strikes", piece, hall.strikes(2, other));
                Check.due("fewer than three", false, hall.isBanned(2, other));
            }
            hall.run(2);
        }
        for (int other = 0; other < 2; other++) {
            Check.due("three strikes, of three pieces", 3, hall.strikes(2, other));
            Check.due("are a ban", true, hall.isBanned(2, other));
        }
        Check.due("nobody is left to ask", 0, hall.run(1));
    }

    /** The peer 1 has banned 0 when a wrong piece with a block of 0 gets full. */
    private static void strikesGoOnBehindABan() {
        Swarmhall hall = Halls.of(true, false);
        hall.spoil(0, 0, true);
        hall.spoil(0, 1, true);
        hall.run(1);
        hall.setPriority(0, 0);
        hall.run(4);
        Check.due("banned", true, hall.isBanned(1, 0));
        Check.due("one strike", 1, hall.strikes(1, 0));
        hall.setPriority(0, 1);
        hall.join(true);
        Check.due("its block is still there", 1, hall.blocks(1, 0));
        hall.run(3);
        Check.due("dropped", 0, hall.blocks(1, 0));
        Check.due("a strike more", 2, hall.strikes(1, 0));
        Check.due("the ban stays", true, hall.isBanned(1, 0));
        Check.due("one for the other one too", 1, hall.strikes(1, 2));
        Check.due("three came from that", false, hall.isBanned(1, 2));
        hall.run(4);
        Check.due("then it comes right", 1, hall.holds(1));
    }

    /** The peer 1 has banned 0, but has a wrong block of it in each of the pieces 0, 1 and 2. */
    private static void thirdStrikeBehindABan() {
        Swarmhall hall = Halls.of(true, false);
        for (int piece = 0; piece < 4; piece++) {
            hall.spoil(0, piece, true);
            Halls.wantOnly(hall, piece);
            hall.run(piece < 3 ? 1 : 4);
        }
        Check.due("banned", true, hall.isBanned(1, 0));
        hall.join(true);
        for (int piece = 0; piece < 3; piece++) {
            Halls.wantOnly(hall, piece);
            Check.due("the last three", 3, hall.run(3));
            Check.due("a strike more", piece + 2, hall.strikes(1, 0));
            Check.due("the ban stays", true, hall.isBanned(1, 0));
            Check.due("strikes of the other one", piece + 1, hall.strikes(1, 2));
            Check.due("which is banned by the third one", piece == 2, hall.isBanned(1, 2));
        }
    }

    // ---- halls

    /** Lets rounds pass in which nothing is wanted; then all is. */
    private static void idle(Swarmhall hall, int rounds) {
        Halls.wantOnly(hall);
        for (int left = rounds; left > 0; left -= 20) {
            Check.due("an idle round", 0, hall.run(Math.min(left, 20)));
        }
        for (int piece = 0; piece < Halls.PIECES; piece++) {
            hall.setPriority(piece, 1);
        }
    }

    /** 1, 2 and 3 hold the piece 0, 4 none; only the pieces 0 and 1 are wanted, and nobody holds 1. */
    private static Swarmhall threeWithThePiece0() {
        Swarmhall hall = Halls.of(true, false, false, false);
        Halls.wantOnly(hall, 0);
        hall.run(4);
        hall.leave(0);
        hall.join(false);
        hall.setPriority(1, 1);
        return hall;
    }
}
