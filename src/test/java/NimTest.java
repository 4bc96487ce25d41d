import java.util.HashMap;
import java.util.Map;
import java.util.Random;

/** nim() and best() against what they mean: the least number that no move leads to, the first move to 0. */
public final class NimTest {
    // Three calls a move, and those that set the position up, stay under 512.
    private static final int MOVES_OF_ONE_OBJECT = 100;
    private static final int MOST_MOVES = 23;
    private static final Due DUE = new Due();

    public static void main(String[] args) {
        firstPositions();
        bruteForce();
        for (int seed = 0; seed < 400; seed++) {
            leastOfAllMoves(seed);
        }
        longChain();
        manyDeadWalls();
        DUE.end();
    }

    /** The nim-worths of the first positions are known: 0, 0, 1. */
    private static void firstPositions() {
        int[] worth = {0, 0, 1, -1, -1, -1, -1, -1};
        for (int n = 1; n <= 8; n++) {
            SproutTable table = new SproutTable();
            table.begin(n);
            DUE.is("nim() of " + n + " spots", table.nim(), worth[n - 1]);
            DUE.is("nim() of " + n + " spots, once more", table.nim(), worth[n - 1]);
        }
    }

    /** Every position of the game of two spots, and many of five lives or less, by going through all. */
    private static void bruteForce() {
        Map<String, Integer> known = new HashMap<>();
        for (int seed = 0; seed < 300; seed++) {
            Random random = new Random(seed);
            SproutTable table = new SproutTable();
            Model model = new Model();
            int n = 1 + random.nextInt(8);
            int most = n == 2 ? 6 : 5;
            table.begin(n);
            model.begin(n);
            boolean more = true;
            while (more) {
                if (model.count(3) <= most) {
                    DUE.is("seed " + seed + ": nim()", table.nim(), model.nim(known));
                }
                int many = model.moves();
                more = many > 0;
                if (more) {
                    int k = random.nextInt(many);
                    table.move(k);
                    model.move(k);
                }
            }
        }
    }

    /** nim() and best() of a position, by nim() behind each of its moves. */
    private static void leastOfAllMoves(int seed) {
        Random random = new Random(seed);
        SproutTable table = new SproutTable();
        table.begin(3 + random.nextInt(6));
        boolean gathers = random.nextBoolean();
        for (int t = 0; t < MOST_MOVES && table.count(3) > 9 && table.moves() > 0; t++) {
            table.move(choose(table, random, gathers));
        }
        int more = random.nextInt(4);
        for (int t = 0; t < more && table.moves() > 0; t++) {
            table.move(random.nextInt(table.moves()));
        }
        if (table.count(3) <= 9) {
            compareWithMoves("seed " + seed, table);
        }
    }

    /** With gathers, two walls are joined more often than chance has it: that leaves harder positions. */
    private static int choose(SproutTable table, Random random, boolean gathers) {
        int k = random.nextInt(table.moves());
        for (int attempt = 0; attempt < 5 && gathers; attempt++) {
            if (table.tell(k, 1) != table.tell(k, 3)) {
                return k;
            }
            k = random.nextInt(table.moves());
        }
        return k;
    }

    private static void compareWithMoves(String name, SproutTable table) {
        int many = table.moves();
        boolean[] reached = new boolean[64];
        int toZero = SproutTable.NONE;
        int[][] game = read(table);
        SproutTable tried = table;
        for (int k = 0; k < many; k++) {
            if (k % MOVES_OF_ONE_OBJECT == 0) {
                tried = play(game);
            }
            tried.move(k);
            int worth = tried.nim();
            tried.undo();
            reached[worth] = true;
            if (worth == 0 && toZero == SproutTable.NONE) {
                toZero = k;
            }
        }
        int least = 0;
        while (reached[least]) {
            least++;
        }
        SproutTable fresh = play(game);
        DUE.is(name + ": nim()", fresh.nim(), least);
        DUE.is(name + ": best()", fresh.best(), toZero);
        DUE.is(name + ": best() of a new object", play(game).best(), toZero);
    }

    /** How a game went: how many spots it began with, then its moves. */
    private static int[][] read(SproutTable table) {
        int many = table.count(2);
        int[][] game = new int[many + 1][6];
        game[0][0] = table.count(0) - many;
        for (int t = 0; t < many; t++) {
            for (int what = 0; what < 6; what++) {
                game[t + 1][what] = table.made(t, what);
            }
        }
        return game;
    }

    /** The game on a new object, which has 512 calls of its own. */
    private static SproutTable play(int[][] game) {
        SproutTable table = new SproutTable();
        table.begin(game[0][0]);
        for (int t = 1; t < game.length; t++) {
            int[] m = game[t];
            table.join(m[0], m[1], m[2], m[3], m[4], m[5]);
        }
        return table;
    }

    /** One wall with nine spots on it, each twice: the most corners that nine lives can have. */
    private static void longChain() {
        SproutTable table = new SproutTable();
        table.begin(6);
        for (int spot = 0; spot <= 5; spot += 5) {
            int wall = wallOf(table, spot);
            DUE.is("loop", table.join(0, wall, 0, wall, 0, 0) >= 0, true);
            DUE.is("second loop", table.join(0, 0, 0, 0, 1, 0) >= 0, true);
        }
        int[] chain = {7, 1, 2, 3, 4, 9};
        for (int k = 0; k + 1 < chain.length; k++) {
            link(table, chain[k], chain[k + 1]);
            table = play(read(table));
        }
        DUE.is("lives of the chain", table.count(3), 9);
        DUE.is("walls of the chain's field", table.walls(0), 1);
        compareWithMoves("chain", table);
    }

    private static int wallOf(SproutTable table, int spot) {
        for (int w = 0; w < table.walls(0); w++) {
            for (int k = 0; k < table.corners(0, w); k++) {
                if (table.corner(0, w, k) == spot) {
                    return w;
                }
            }
        }
        return SproutTable.NONE;
    }

    private static void link(SproutTable table, int a, int b) {
        int u = Math.min(wallOf(table, a), wallOf(table, b));
        int v = Math.max(wallOf(table, a), wallOf(table, b));
        for (int i = 0; i < table.corners(0, u); i++) {
            for (int j = 0; j < table.corners(0, v); j++) {
                int p = table.corner(0, u, i);
                int q = table.corner(0, v, j);
                if (p == a && q == b || p == b && q == a) {
                    DUE.is("link", table.join(0, u, i, v, j, 0) >= 0, true);
                    return;
                }
            }
        }
        DUE.is("link of " + a + " and " + b, 0, 1);
    }

    /** Seven walls without a life beside one with two: 128 sides, all of one worth. */
    private static void manyDeadWalls() {
        SproutTable table = new SproutTable();
        table.begin(8);
        for (int spot = 0; spot < 8; spot++) {
            int wall = wallOf(table, spot);
            DUE.is("loop", table.join(0, wall, 0, wall, 0, 0) >= 0, true);
            if (spot < 7) {
                DUE.is("inner loop", table.join(table.count(1) - 1, 0, 0, 0, 1, 0) >= 0, true);
            }
        }
        DUE.is("lives", table.count(3), 9);
        DUE.is("walls", table.walls(0), 8);
        DUE.is("moves", table.moves(), 129);
        compareWithMoves("dead walls", table);
    }
}
