import java.util.ArrayList;
import java.util.List;

/**
 * A call that throws changes nothing: at each step of a long story, a hall that has refused every call that can be
 * refused answers as one that was never asked, and goes on as that does.
 */
public final class RefusedCallsTest {
    private static final Class<IndexOutOfBoundsException> INDEX = IndexOutOfBoundsException.class;
    private static final Class<IllegalArgumentException> ARGUMENT = IllegalArgumentException.class;
    private static final Class<IllegalStateException> STATE = IllegalStateException.class;

    private interface Step {
        void go(Swarmhall hall);
    }

    private static final Step[] STORY = {
        hall -> hall.join(true),
        hall -> hall.join(false),
        hall -> hall.run(1),
        hall -> hall.join(true),
        hall -> hall.join(false),
        hall -> hall.setSequence(3, true),
        hall -> hall.setCareful(2, true),
        hall -> hall.spoil(2, 3, true),
        hall -> hall.setPriority(3, 3),
        hall -> hall.setPriority(7, 0),
        hall -> hall.run(3),
        hall -> hall.join(false),
        hall -> hall.run(2),
        hall -> hall.join(false),
        hall -> hall.spoil(0, 1, true),
        hall -> hall.run(7),
        hall -> hall.leave(3),
        hall -> hall.run(20),
        hall -> hall.leave(0),
        hall -> hall.run(20),
        hall -> hall.setPriority(7, 2),
        hall -> hall.run(20),
        hall -> hall.run(20),
        hall -> hall.run(20),
        hall -> hall.run(20),
        hall -> hall.run(20),
        hall -> hall.run(20),
        hall -> hall.run(20),
        hall -> hall.run(7),
        hall -> hall.leave(1),
        hall -> hall.leave(2),
        hall -> hall.leave(4),
        hall -> hall.leave(5),
    };

    /** With the step of this number the sixth peer has joined. */
    private static final int ALL_HAVE_JOINED = 14;

    public static void main(String[] args) {
        for (int steps = 0; steps <= STORY.length; steps++) {
            Swarmhall plain = after(steps);
            Check.due("answers of step " + steps, Halls.answers(plain), Halls.answers(refused(steps)));
            Check.due("rules of step " + steps, rules(after(steps)), rules(refused(steps)));
        }
        goesOnAlike();
        Check.end();
    }

    private static Swarmhall after(int steps) {
        Swarmhall hall = new Swarmhall();
        for (int step = 0; step < steps; step++) {
            STORY[step].go(hall);
        }
        return hall;
    }

    private static Swarmhall refused(int steps) {
        Swarmhall hall = after(steps);
        refuseAll("step " + steps, hall);
        if (steps >= ALL_HAVE_JOINED) {
            Check.dueThrow("step " + steps + ": join", STATE, () -> hall.join(true));
            Check.dueThrow("step " + steps + ": join", STATE, () -> hall.join(false));
        }
        return hall;
    }

    /** What shows only when it is set again; and what the next rounds bring. */
    private static List<Object> rules(Swarmhall hall) {
        List<Object> all = new ArrayList<>();
        for (int number = 0; number < Halls.PEERS; number++) {
            int peer = number;
            all.add(Check.answerOf(() -> hall.setSequence(peer, true)));
            all.add(Check.answerOf(() -> hall.setCareful(peer, true)));
            for (int piece = 0; piece < Halls.PIECES; piece++) {
                int of = piece;
                all.add(Check.answerOf(() -> hall.spoil(peer, of, true)));
            }
        }
        for (int piece = 0; piece < Halls.PIECES; piece++) {
            all.add(hall.setPriority(piece, 1));
        }
        all.add(Check.answerOf(() -> hall.run(2)));
        all.add(Check.answerOf(() -> hall.join(false)));
        all.add(hall.peers());
        all.add(hall.rounds());
        return all;
    }

    /** One refused call of each kind between all steps, and the same end. */
    private static void goesOnAlike() {
        Swarmhall asked = new Swarmhall();
        for (Step step : STORY) {
            refuseSome(asked);
            step.go(asked);
        }
        Check.due("the end of the story", Halls.answers(after(STORY.length)), Halls.answers(asked));
    }

    private static void refuseSome(Swarmhall hall) {
        Check.dueThrow("leave", INDEX, () -> hall.leave(6));
        Check.dueThrow("setPriority", ARGUMENT, () -> hall.setPriority(0, 4));
        Check.dueThrow("spoil", INDEX, () -> hall.spoil(0, 12, true));
        Check.dueThrow("run", ARGUMENT, () -> hall.run(21));
    }

    // ---- all that can be refused now

    private static void refuseAll(String when, Swarmhall hall) {
        int here = hall.peers();
        for (int peer = -1; peer <= Halls.PEERS; peer++) {
            if (peer < 0 || (here >> peer & 1) == 0) {
                refusePeer(when + ", peer " + peer, hall, peer, here == 0 ? 0 : Integer.numberOfTrailingZeros(here));
            } else {
                refusePieces(when + ", peer " + peer, hall, peer);
            }
        }
        for (int piece : new int[] {-1, 12}) {
            Check.dueThrow(when + ": setPriority " + piece, INDEX, () -> hall.setPriority(piece, 2));
            Check.dueThrow(when + ": setPriority " + piece, INDEX, () -> hall.setPriority(piece, 4));
            Check.dueThrow(when + ": holders " + piece, INDEX, () -> hall.holders(piece));
        }
        for (int priority : new int[] {-1, 4}) {
            Check.dueThrow(when + ": priority " + priority, ARGUMENT, () -> hall.setPriority(3, priority));
        }
        for (int rounds : new int[] {-1, 0, 21}) {
            Check.dueThrow(when + ": run " + rounds, ARGUMENT, () -> hall.run(rounds));
        }
        int left = 200 - hall.rounds();
        if (left < 20) {
            Check.dueThrow(when + ": run", STATE, () -> hall.run(left + 1));
            Check.dueThrow(when + ": run", STATE, () -> hall.run(20));
        }
    }

    private static void refusePeer(String when, Swarmhall hall, int peer, int good) {
        Check.dueThrow(when + ": leave", INDEX, () -> hall.leave(peer));
        for (boolean is : new boolean[] {true, false}) {
            Check.dueThrow(when + ": setSequence", INDEX, () -> hall.setSequence(peer, is));
            Check.dueThrow(when + ": setCareful", INDEX, () -> hall.setCareful(peer, is));
            Check.dueThrow(when + ": spoil", INDEX, () -> hall.spoil(peer, 3, is));
        }
        Check.dueThrow(when + ": holds", INDEX, () -> hall.holds(peer));
        Check.dueThrow(when + ": holdsByLog", INDEX, () -> hall.holdsByLog(peer));
        Check.dueThrow(when + ": blocks", INDEX, () -> hall.blocks(peer, 0));
        Check.dueThrow(when + ": chosen", INDEX, () -> hall.chosen(peer));
        Check.dueThrow(when + ": doubles", INDEX, () -> hall.doubles(peer));
        Check.dueThrow(when + ": shown", INDEX, () -> hall.shown(peer, good));
        Check.dueThrow(when + ": shown", INDEX, () -> hall.shown(good, peer));
        Check.dueThrow(when + ": got", INDEX, () -> hall.got(peer, good));
        Check.dueThrow(when + ": got", INDEX, () -> hall.got(good, peer));
        Check.dueThrow(when + ": strikes", INDEX, () -> hall.strikes(peer, good));
        Check.dueThrow(when + ": strikes", INDEX, () -> hall.strikes(good, peer));
        Check.dueThrow(when + ": isBanned", INDEX, () -> hall.isBanned(peer, good));
        Check.dueThrow(when + ": isBanned", INDEX, () -> hall.isBanned(good, peer));
    }

    private static void refusePieces(String when, Swarmhall hall, int peer) {
        for (int piece : new int[] {-1, 12}) {
            Check.dueThrow(when + ": spoil " + piece, INDEX, () -> hall.spoil(peer, piece, true));
            Check.dueThrow(when + ": blocks " + piece, INDEX, () -> hall.blocks(peer, piece));
        }
    }
}
