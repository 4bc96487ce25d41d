import java.util.HashMap;
import java.util.Map;
import java.util.Random;

/** Runs of calls by chance, each answer compared with that of the plain model. */
public final class ModelTest {
    private static final int MOST_CALLS = 512;
    private static final int[] ODD = {-1, -2, 6, 7, 9, 64, 1000, 100000, Integer.MAX_VALUE, Integer.MIN_VALUE};
    private final Due due = new Due();
    private final Map<String, Integer> known = new HashMap<>();
    private Random random;
    private SproutTable table;
    private Model model;
    private int calls;
    private int run;

    public static void main(String[] args) {
        ModelTest test = new ModelTest();
        for (int run = 0; run < 150; run++) {
            test.anyCalls(run);
        }
        for (int run = 0; run < 400; run++) {
            test.wholeGame(run);
        }
        test.due.end();
    }

    private void renew(int number) {
        run = number;
        random = new Random(number);
        table = new SproutTable();
        model = new Model();
        calls = 0;
    }

    private void same(String call, long got, long want) {
        calls++;
        due.is("run " + run + ", call " + calls + ": " + call, got, want);
    }

    private void same(String call, boolean got, boolean want) {
        same(call, got ? 1 : 0, want ? 1 : 0);
    }

    /** Mostly a number that there is, now and then one that there is not. */
    private int upTo(int many) {
        if (random.nextInt(12) == 0) {
            return ODD[random.nextInt(ODD.length)];
        }
        return random.nextInt(Math.max(1, many) + (random.nextInt(8) == 0 ? 1 : 0));
    }

    private void anyCalls(int number) {
        renew(number);
        // A step makes two calls at most.
        while (calls < MOST_CALLS - 1) {
            switch (random.nextInt(20)) {
                case 0 -> beginNow();
                case 1, 2, 3 -> moveNow();
                case 4, 5, 6 -> joinNow();
                case 7 -> undoNow();
                case 8 -> imageNow();
                case 9 -> againNow();
                case 10 -> solveNow();
                default -> askNow();
            }
        }
    }

    private void beginNow() {
        if (random.nextInt(4) == 0) {
            int n = random.nextInt(12) - 2;
            same("begin(" + n + ")", table.begin(n), model.begin(n));
        }
    }

    private void moveNow() {
        int k = upTo(model.moves());
        same("move(" + k + ")", table.move(k), model.move(k));
    }

    private void joinNow() {
        int f = upTo(model.count(1));
        int u = upTo(model.walls(f));
        int i = upTo(model.corners(f, u));
        int v = upTo(model.walls(f));
        int j = upTo(model.corners(f, v));
        int side = random.nextBoolean() ? 0 : upTo(1 << Math.max(0, model.walls(f) - 1));
        String call = "join(" + f + ", " + u + ", " + i + ", " + v + ", " + j + ", " + side + ")";
        same(call, table.join(f, u, i, v, j, side), model.join(f, u, i, v, j, side));
    }

    private void undoNow() {
        same("undo()", table.undo(), model.undo());
    }

    private void imageNow() {
        int k = upTo(4);
        same("image(" + k + ")", table.image(k), model.image(k));
    }

    private void againNow() {
        int k = upTo(4);
        same("again(" + k + ")", table.again(k), model.again(k));
    }

    private void solveNow() {
        int left = model.count(3);
        if (left > 9) {
            same("nim()", table.nim(), Model.NONE);
            same("best()", table.best(), Model.NONE);
        } else if (left <= 5) {
            same("nim()", table.nim(), model.nim(known));
            same("best()", table.best(), firstToZero());
        }
    }

    private int firstToZero() {
        int many = model.moves();
        for (int k = 0; k < many; k++) {
            model.move(k);
            int behind = model.nim(known);
            model.undo();
            if (behind == 0) {
                return k;
            }
        }
        return Model.NONE;
    }

    private void askNow() {
        int f = upTo(model.count(1));
        int w = upTo(model.walls(f));
        int k = upTo(model.corners(f, w));
        int what = upTo(6);
        switch (random.nextInt(8)) {
            case 0 -> same("count(" + what + ")", table.count(what), model.count(what));
            case 1 -> same("walls(" + f + ")", table.walls(f), model.walls(f));
            case 2 -> same("corners(" + f + ", " + w + ")", table.corners(f, w), model.corners(f, w));
            case 3 -> same("corner(" + f + ", " + w + ", " + k + ")", table.corner(f, w, k), model.corner(f, w, k));
            case 4 -> {
                int spot = upTo(model.count(0));
                same("lives(" + spot + ")", table.lives(spot), model.lives(spot));
            }
            case 5 -> same("moves()", table.moves(), model.moves());
            case 6 -> {
                int t = upTo(model.moves());
                same("tell(" + t + ", " + what + ")", table.tell(t, what), model.tell(t, what));
            }
            default -> {
                int t = upTo(model.count(2));
                same("made(" + t + ", " + what + ")", table.made(t, what), model.made(t, what));
            }
        }
    }

    /** Plays to the end, looks at all that there is then, takes back some moves and looks again. */
    private void wholeGame(int number) {
        renew(number);
        int n = 1 + random.nextInt(8);
        same("begin(" + n + ")", table.begin(n), model.begin(n));
        int stop = random.nextInt(24);
        for (int t = 0; t < stop && model.moves() > 0; t++) {
            int k = random.nextInt(model.moves());
            same("move(" + k + ")", table.move(k), model.move(k));
        }
        lookAtAll();
        int back = random.nextInt(3);
        for (int t = 0; t < back; t++) {
            same("undo()", table.undo(), model.undo());
        }
        lookAtAll();
    }

    private void lookAtAll() {
        for (int what = 0; what <= 5; what++) {
            same("count(" + what + ")", table.count(what), model.count(what));
        }
        for (int spot = 0; spot < model.count(0); spot++) {
            same("lives(" + spot + ")", table.lives(spot), model.lives(spot));
        }
        for (int f = 0; f < model.count(1); f++) {
            same("walls(" + f + ")", table.walls(f), model.walls(f));
            for (int w = 0; w < model.walls(f); w++) {
                same("corners(" + f + ", " + w + ")", table.corners(f, w), model.corners(f, w));
                for (int k = 0; k < model.corners(f, w); k++) {
                    same("corner(" + f + ", " + w + ", " + k + ")", table.corner(f, w, k), model.corner(f, w, k));
                }
            }
        }
        same("moves()", table.moves(), model.moves());
    }
}
