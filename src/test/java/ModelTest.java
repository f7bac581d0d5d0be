import java.util.Random;

/** Runs of calls by chance, the same ones each time: a hall answers as the model does. */
public final class ModelTest {
    private static final int RUNS = 1500;
    private static final int CALLS = 512;

    private final Random chance;
    private final Swarmhall hall = new Swarmhall();
    private final Model model = new Model();
    /** How often pieces are spoilt, priorities set and so on differs from run to run. */
    private final int[] weights = new int[8];
    private final String name;

    private ModelTest(int run) {
        name = "run " + run;
        chance = new Random(run);
        for (int k = 0; k < weights.length; k++) {
            weights[k] = 1 + chance.nextInt(12);
        }
    }

    public static void main(String[] args) {
        for (int run = 0; run < RUNS; run++) {
            ModelTest test = new ModelTest(run);
            int calls = 0;
            for (int first = chance(run); first > 0; first--) {
                test.join();
                calls++;
            }
            for (; calls < CALLS; calls++) {
                test.call();
            }
        }
        Check.end();
    }

    private static int chance(int run) {
        return run % 7;
    }

    private void call() {
        if (chance.nextInt(3) > 0) {
            question();
            return;
        }
        int sum = 0;
        for (int weight : weights) {
            sum += weight;
        }
        int at = chance.nextInt(sum);
        int kind = 0;
        while (at >= weights[kind]) {
            at -= weights[kind];
            kind++;
        }
        rule(kind);
    }

    private void rule(int kind) {
        int peer = peer();
        int piece = piece();
        boolean is = chance.nextInt(3) > 0;
        switch (kind) {
            case 0 -> join();
            case 1 -> leave();
            case 2 -> setPriority(piece, chance.nextInt(8) == 0 ? chance.nextInt(7) - 2 : chance.nextInt(4));
            case 3 -> same("setSequence " + peer + " " + is, () -> model.setSequence(peer, is),
                    () -> hall.setSequence(peer, is));
            case 4 -> same("setCareful " + peer + " " + is, () -> model.setCareful(peer, is),
                    () -> hall.setCareful(peer, is));
            case 5 -> same("spoil " + peer + " " + piece + " " + is, () -> model.spoil(peer, piece, is),
                    () -> hall.spoil(peer, piece, is));
            default -> run();
        }
    }

    private void join() {
        boolean isSeeder = chance.nextInt(3) == 0;
        same("join " + isSeeder, () -> model.join(isSeeder), () -> hall.join(isSeeder));
    }

    private void leave() {
        // seldom, or else nobody is there
        int peer = chance.nextInt(6) == 0 ? peer() : -1;
        same("leave " + peer, () -> model.leave(peer), () -> hall.leave(peer));
    }

    private void setPriority(int piece, int priority) {
        same("setPriority " + piece + " " + priority, () -> model.setPriority(piece, priority),
                () -> hall.setPriority(piece, priority));
    }

    private void run() {
        int rounds = chance.nextInt(20) == 0 ? chance.nextInt(24) - 1 : 1 + chance.nextInt(4);
        same("run " + rounds, () -> model.run(rounds), () -> hall.run(rounds));
    }

    private void question() {
        int peer = peer();
        int other = peer();
        int piece = piece();
        switch (chance.nextInt(12)) {
            case 0 -> same("peers", model::peers, hall::peers);
            case 1 -> same("rounds", model::rounds, hall::rounds);
            case 2 -> same("holds " + peer, () -> model.holds(peer), () -> hall.holds(peer));
            case 10 -> same("holdsByLog " + peer, () -> model.holds(peer), () -> hall.holdsByLog(peer));
            case 3 -> same("blocks " + peer + " " + piece, () -> model.blocks(peer, piece),
                    () -> hall.blocks(peer, piece));
            case 4 -> same("holders " + piece, () -> model.holders(piece), () -> hall.holders(piece));
            case 5 -> same("shown " + peer + " " + other, () -> model.shown(peer, other),
                    () -> hall.shown(peer, other));
            case 6 -> same("chosen " + peer, () -> model.chosen(peer), () -> hall.chosen(peer));
            case 7 -> same("got " + peer + " " + other, () -> model.got(peer, other), () -> hall.got(peer, other));
            case 8 -> same("doubles " + peer, () -> model.doubles(peer), () -> hall.doubles(peer));
            case 9 -> same("strikes " + peer + " " + other, () -> model.strikes(peer, other),
                    () -> hall.strikes(peer, other));
            default -> same("isBanned " + peer + " " + other, () -> model.isBanned(peer, other),
                    () -> hall.isBanned(peer, other));
        }
    }

    private int peer() {
        return chance.nextInt(12) == 0 ? chance.nextInt(12) - 3 : chance.nextInt(6);
    }

    private int piece() {
        return chance.nextInt(12) == 0 ? chance.nextInt(20) - 4 : chance.nextInt(12);
    }

    private void same(String call, Check.Call want, Check.Call got) {
        Check.due(name + ": " + call, Check.answerOf(want), Check.answerOf(got));
    }
}
