import java.util.ArrayList;
import java.util.Comparator;
import java.util.List;
import java.util.function.IntPredicate;
import java.util.stream.Collectors;
import java.util.stream.IntStream;

/** The document once more, word by word and without haste, to compare with in ModelTest. */
final class Model {
    private record Ask(int by, int of, int block) {
    }

    private final boolean[] here = new boolean[6];
    private final boolean[][] held = new boolean[6][12];
    private final boolean[][] spoils = new boolean[6][12];
    private final boolean[] sequence = new boolean[6];
    private final boolean[] careful = new boolean[6];
    /** The peer that a block came from; -1 if one does not have it. */
    private final int[][] source = new int[6][48];
    private final boolean[][] bad = new boolean[6][48];
    private final int[][] got = new int[6][6];
    private final int[][] strikes = new int[6][6];
    private final boolean[][] banned = new boolean[6][6];
    private final int[] doubles = new int[6];
    private final int[] priority = {1, 1, 1, 1, 1, 1, 1, 1, 1, 1, 1, 1};
    private int joined = 0;
    private int round = 0;

    // ---- the face

    int join(boolean isSeeder) {
        if (joined == 6) {
            throw new IllegalStateException();
        }
        here[joined] = true;
        for (int piece = 0; piece < 12; piece++) {
            held[joined][piece] = isSeeder;
        }
        for (int block = 0; block < 48; block++) {
            source[joined][block] = -1;
        }
        return joined++;
    }

    int leave(int peer) {
        need(isPeer(peer));
        here[peer] = false;
        return pieces(piece -> held[peer][piece]).size();
    }

    int setPriority(int piece, int to) {
        need(isPiece(piece));
        if (to < 0 || to > 3) {
            throw new IllegalArgumentException();
        }
        int before = priority[piece];
        priority[piece] = to;
        return before;
    }

    boolean setSequence(int peer, boolean is) {
        need(isPeer(peer));
        return set(sequence, peer, is);
    }

    boolean setCareful(int peer, boolean is) {
        need(isPeer(peer));
        return set(careful, peer, is);
    }

    boolean spoil(int peer, int piece, boolean is) {
        need(isPeer(peer) && isPiece(piece));
        return set(spoils[peer], piece, is);
    }

    int run(int rounds) {
        if (rounds < 1 || rounds > 20) {
            throw new IllegalArgumentException();
        }
        if (round + rounds > 200) {
            throw new IllegalStateException();
        }
        int sum = 0;
        for (int k = 0; k < rounds; k++) {
            sum += oneRound();
        }
        return sum;
    }

    int rounds() {
        return round;
    }

    int peers() {
        return bits(everybody());
    }

    int holds(int peer) {
        need(isPeer(peer));
        return bits(pieces(piece -> held[peer][piece]));
    }

    int blocks(int peer, int piece) {
        need(isPeer(peer) && isPiece(piece));
        int set = 0;
        for (int k = 0; k < 4; k++) {
            set |= held[peer][piece] || source[peer][4 * piece + k] >= 0 ? 1 << k : 0;
        }
        return set;
    }

    int holders(int piece) {
        need(isPiece(piece));
        return (int) everybody().stream().filter(peer -> held[peer][piece]).count();
    }

    int shown(int peer, int other) {
        need(isPeer(peer) && isPeer(other));
        return bits(shows(peer, other));
    }

    int chosen(int peer) {
        need(isPeer(peer));
        return bits(chooses(peer));
    }

    int got(int peer, int other) {
        need(isPeer(peer) && isPeer(other));
        return got[peer][other];
    }

    int doubles(int peer) {
        need(isPeer(peer));
        return doubles[peer];
    }

    int strikes(int peer, int other) {
        need(isPeer(peer) && isPeer(other));
        return strikes[peer][other];
    }

    boolean isBanned(int peer, int other) {
        need(isPeer(peer) && isPeer(other));
        return banned[peer][other];
    }

    // ---- terms

    private static void need(boolean is) {
        if (!is) {
            throw new IndexOutOfBoundsException();
        }
    }

    private boolean isPeer(int peer) {
        return peer >= 0 && peer < 6 && here[peer];
    }

    private static boolean isPiece(int piece) {
        return piece >= 0 && piece < 12;
    }

    private static boolean set(boolean[] row, int at, boolean is) {
        boolean changes = row[at] != is;
        row[at] = is;
        return changes;
    }

    private static int bits(List<Integer> numbers) {
        return numbers.stream().mapToInt(number -> 1 << number).sum();
    }

    private static List<Integer> below(int bound, IntPredicate which) {
        return IntStream.range(0, bound).filter(which).boxed().collect(Collectors.toCollection(ArrayList::new));
    }

    private static List<Integer> pieces(IntPredicate which) {
        return below(12, which);
    }

    private List<Integer> everybody() {
        return below(6, peer -> here[peer]);
    }

    private List<Integer> shows(int peer, int other) {
        if (peer == other) {
            return List.of();
        }
        if (!careful[peer]) {
            return pieces(piece -> held[peer][piece]);
        }
        return pieces(piece -> held[peer][piece] && !held[other][piece]).stream()
                .min(Comparator.<Integer>comparingInt(this::holders)
                        .thenComparingInt(piece -> (piece - other + 12) % 12))
                .stream().toList();
    }

    private boolean wants(int peer, int piece) {
        return priority[piece] > 0 && !held[peer][piece];
    }

    private boolean isInterested(int peer, int other) {
        return !banned[peer][other] && shows(other, peer).stream().anyMatch(piece -> wants(peer, piece));
    }

    private List<Integer> chooses(int peer) {
        List<Integer> rest = everybody();
        rest.removeIf(other -> other == peer || !isInterested(other, peer));
        List<Integer> chosen = new ArrayList<>();
        while (chosen.size() < 2 && !rest.isEmpty()) {
            // sorted is stable: of several the lowest one is first
            Integer best = rest.stream().sorted(Comparator.comparingInt(other -> -got[peer][other])).toList().get(0);
            rest.remove(best);
            chosen.add(best);
        }
        rest.stream().min(Comparator.comparingInt(other -> Math.floorMod(other - round % 6, 6))).ifPresent(chosen::add);
        return chosen;
    }

    private int oneRound() {
        int[] rare = IntStream.range(0, 12).map(this::holders).toArray();
        List<List<Integer>> chosen = new ArrayList<>();
        for (int peer = 0; peer < 6; peer++) {
            chosen.add(here[peer] ? chooses(peer) : List.of());
        }
        List<Ask> asks = new ArrayList<>();
        for (int peer : everybody()) {
            for (int other : everybody()) {
                if (chosen.get(other).contains(peer)) {
                    ask(peer, other, rare, asks);
                }
            }
        }
        int come = come(asks);
        everybody().forEach(this::settle);
        round++;
        return come;
    }

    private void ask(int peer, int other, int[] rare, List<Ask> asks) {
        List<Integer> asked = asks.stream().filter(ask -> ask.by() == peer).map(Ask::block).toList();
        List<Integer> shown = shows(other, peer);
        List<Integer> missing = below(48, block -> wants(peer, block / 4) && source[peer][block] < 0);
        List<Integer> offered = missing.stream().filter(block -> shown.contains(block / 4)).toList();
        Comparator<Integer> best = Comparator.<Integer>comparingInt(block -> isBegun(peer, block / 4, asked) ? 0 : 1)
                .thenComparingInt(block -> -priority[block / 4])
                .thenComparingInt(block -> sequence[peer] ? 0 : rare[block / 4])
                .thenComparingInt(block -> block);
        offered.stream().filter(block -> !asked.contains(block)).min(best).ifPresentOrElse(
                block -> asks.add(new Ask(peer, other, block)),
                () -> {
                    if (asked.containsAll(missing) && !offered.isEmpty()) {
                        asks.add(new Ask(peer, other, offered.get(0)));
                    }
                });
    }

    private boolean isBegun(int peer, int piece, List<Integer> asked) {
        return IntStream.range(4 * piece, 4 * piece + 4).anyMatch(
                block -> source[peer][block] >= 0 || asked.contains(block));
    }

    private int come(List<Ask> asks) {
        for (int[] row : got) {
            java.util.Arrays.fill(row, 0);
        }
        int come = 0;
        for (Ask ask : asks) {
            if (source[ask.by()][ask.block()] >= 0) {
                doubles[ask.by()]++;
            } else {
                source[ask.by()][ask.block()] = ask.of();
                bad[ask.by()][ask.block()] = spoils[ask.of()][ask.block() / 4];
                got[ask.by()][ask.of()]++;
                come++;
            }
        }
        return come;
    }

    private void settle(int peer) {
        for (int piece : pieces(piece -> !held[peer][piece])) {
            int first = 4 * piece;
            List<Integer> from = IntStream.range(first, first + 4).map(block -> source[peer][block]).boxed().toList();
            if (from.contains(-1)) {
                continue;
            }
            if (IntStream.range(first, first + 4).noneMatch(block -> bad[peer][block])) {
                held[peer][piece] = true;
                continue;
            }
            for (int block = first; block < first + 4; block++) {
                source[peer][block] = -1;
            }
            List<Integer> blamed = from.stream().distinct().toList();
            for (int other : blamed) {
                strikes[peer][other]++;
                banned[peer][other] |= blamed.size() == 1 || strikes[peer][other] >= 3;
            }
        }
    }
}
