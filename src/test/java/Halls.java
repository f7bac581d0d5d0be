import java.util.ArrayList;
import java.util.List;

/** What several tests need of halls. */
final class Halls {
    static final int PEERS = 6;
    static final int PIECES = 12;
    static final int ALL = 4095;

    private Halls() {
    }

    static Swarmhall of(boolean... seeders) {
        Swarmhall hall = new Swarmhall();
        for (boolean isSeeder : seeders) {
            hall.join(isSeeder);
        }
        return hall;
    }

    static void wantOnly(Swarmhall hall, int... pieces) {
        for (int piece = 0; piece < PIECES; piece++) {
            hall.setPriority(piece, 0);
        }
        for (int piece : pieces) {
            hall.setPriority(piece, 1);
        }
    }

    static int set(int... numbers) {
        int set = 0;
        for (int number : numbers) {
            set |= 1 << number;
        }
        return set;
    }

    /** All answers of all questions: two halls that are alike give the same. */
    static List<Object> answers(Swarmhall hall) {
        List<Object> all = new ArrayList<>();
        all.add(hall.rounds());
        all.add(hall.peers());
        for (int piece = 0; piece < PIECES; piece++) {
            all.add(hall.holders(piece));
        }
        for (int number = 0; number < PEERS; number++) {
            int peer = number;
            all.add(Check.answerOf(() -> hall.holds(peer)));
            all.add(Check.answerOf(() -> hall.holdsByLog(peer)));
            all.add(Check.answerOf(() -> hall.chosen(peer)));
            all.add(Check.answerOf(() -> hall.doubles(peer)));
            for (int piece = 0; piece < PIECES; piece++) {
                int of = piece;
                all.add(Check.answerOf(() -> hall.blocks(peer, of)));
            }
            for (int second = 0; second < PEERS; second++) {
                int other = second;
                all.add(Check.answerOf(() -> hall.shown(peer, other)));
                all.add(Check.answerOf(() -> hall.got(peer, other)));
                all.add(Check.answerOf(() -> hall.strikes(peer, other)));
                all.add(Check.answerOf(() -> hall.isBanned(peer, other)));
            }
        }
        return all;
    }
}
