/** The promises one by one: ordinary inputs, the edges that the document names, wrong inputs. */
public final class PromisesTest {
    private static final int NONE = -1;
    private static final int[] WRONG = {-1, -2, 1000, Integer.MAX_VALUE, Integer.MIN_VALUE};
    private static final Due DUE = new Due();

    public static void main(String[] args) {
        newObject();
        begin();
        count();
        wallsAndCorners();
        lives();
        joinTwoWalls();
        joinWallsWithCurves();
        divideAlone();
        divideAtOneCorner();
        divideAtTwoCorners();
        divideWithSides();
        joinRefused();
        lastLives();
        moves();
        move();
        tell();
        undo();
        made();
        nim();
        best();
        imageAndAgain();
        refusedChangesNothing();
        wholeGameOfEight();
        DUE.end();
    }

    private static SproutTable table(int n) {
        SproutTable x = new SproutTable();
        DUE.is("begin(" + n + ")", x.begin(n), true);
        return x;
    }

    /** Fields by their walls, as "0 2 1 2, 3 | 0 1": a comma between walls, a bar between fields. */
    private static String fields(SproutTable x) {
        StringBuilder text = new StringBuilder();
        for (int f = 0; f < x.count(1); f++) {
            text.append(f == 0 ? "" : " | ");
            for (int w = 0; w < x.walls(f); w++) {
                text.append(w == 0 ? "" : ", ");
                for (int k = 0; k < x.corners(f, w); k++) {
                    text.append(k == 0 ? "" : " ").append(x.corner(f, w, k));
                }
            }
        }
        return text.toString();
    }

    private static String livesOf(SproutTable x) {
        StringBuilder text = new StringBuilder();
        for (int spot = 0; spot < x.count(0); spot++) {
            text.append(x.lives(spot));
        }
        return text.toString();
    }

    private static String game(SproutTable x) {
        StringBuilder text = new StringBuilder(fields(x)).append(" ; ").append(livesOf(x));
        for (int what = 0; what <= 5; what++) {
            text.append(' ').append(x.count(what));
        }
        for (int t = 0; t < x.count(2); t++) {
            text.append(" ;");
            for (int what = 0; what <= 5; what++) {
                text.append(' ').append(x.made(t, what));
            }
        }
        return text.toString();
    }

    private static void shows(String name, SproutTable x, String fields, String lives) {
        text(name + ", fields", fields(x), fields);
        text(name + ", lives", livesOf(x), lives);
    }

    private static void text(String name, String got, String want) {
        DUE.is(name + " " + got + " for " + want, got.equals(want), true);
    }

    private static void newObject() {
        SproutTable x = new SproutTable();
        shows("new", x, "0, 1", "33");
        DUE.is("count(2)", x.count(2), 0);
        DUE.is("undo()", x.undo(), NONE);
        for (int k = 0; k < 4; k++) {
            DUE.is("again(" + k + ")", x.again(k), false);
        }
        shows("new, after again", x, "0, 1", "33");
        DUE.is("NONE", SproutTable.NONE, NONE);
        x.move(0);
        shows("another object", new SproutTable(), "0, 1", "33");
    }

    private static void begin() {
        String walls = "";
        String lives = "";
        SproutTable x = new SproutTable();
        for (int n = 1; n <= 8; n++) {
            walls += (n == 1 ? "" : ", ") + (n - 1);
            lives += "3";
            DUE.is("begin(" + n + ")", x.begin(n), true);
            shows("begin(" + n + ")", x, walls, lives);
            DUE.is("count(2)", x.count(2), 0);
            DUE.is("made(0, 0)", x.made(0, 0), NONE);
            DUE.is("undo()", x.undo(), NONE);
            x.move(0);
        }
        String before = game(x);
        for (int n : new int[] {0, 9, 10, -1, Integer.MAX_VALUE, Integer.MIN_VALUE}) {
            DUE.is("begin(" + n + ")", x.begin(n), false);
        }
        text("begin refused", game(x), before);
    }

    private static void count() {
        SproutTable x = table(4);
        counts("begin(4)", x, 4, 1, 0, 12, 4, 4);
        x.join(0, 1, 0, 3, 0, 0);
        counts("1 and 3 joined", x, 5, 1, 1, 11, 3, 3);
        x.join(0, 0, 0, 0, 0, 2);
        counts("loop at 0", x, 6, 2, 2, 10, 4, 3);
        x.join(1, 0, 0, 0, 1, 0);
        counts("second loop at 0", x, 7, 3, 3, 9, 5, 3);
        for (int what : new int[] {6, 7, -1, -2, Integer.MAX_VALUE, Integer.MIN_VALUE}) {
            DUE.is("count(" + what + ")", x.count(what), NONE);
        }
    }

    private static void counts(String name, SproutTable x, int... want) {
        for (int what = 0; what < want.length; what++) {
            DUE.is(name + ": count(" + what + ")", x.count(what), want[what]);
        }
    }

    private static void wallsAndCorners() {
        SproutTable x = table(3);
        x.join(0, 0, 0, 0, 0, 2);
        shows("0 between 1 and 2", x, "0 3, 1 | 0 3, 2", "1331");
        for (int f = 0; f < 2; f++) {
            DUE.is("walls(" + f + ")", x.walls(f), 2);
            DUE.is("corners(" + f + ", 0)", x.corners(f, 0), 2);
            DUE.is("corners(" + f + ", 1)", x.corners(f, 1), 1);
            DUE.is("corners(" + f + ", 2)", x.corners(f, 2), NONE);
            DUE.is("corner(" + f + ", 1, 0)", x.corner(f, 1, 0), f + 1);
            DUE.is("corner(" + f + ", 1, 1)", x.corner(f, 1, 1), NONE);
            DUE.is("corner(" + f + ", 0, 2)", x.corner(f, 0, 2), NONE);
            DUE.is("corner(" + f + ", 2, 0)", x.corner(f, 2, 0), NONE);
        }
        DUE.is("walls(2)", x.walls(2), NONE);
        DUE.is("corners(2, 0)", x.corners(2, 0), NONE);
        DUE.is("corner(2, 0, 0)", x.corner(2, 0, 0), NONE);
        for (int k : WRONG) {
            DUE.is("walls(" + k + ")", x.walls(k), NONE);
            DUE.is("corners(" + k + ", 0)", x.corners(k, 0), NONE);
            DUE.is("corners(0, " + k + ")", x.corners(0, k), NONE);
            DUE.is("corner(" + k + ", 0, 0)", x.corner(k, 0, 0), NONE);
            DUE.is("corner(0, " + k + ", 0)", x.corner(0, k, 0), NONE);
            DUE.is("corner(0, 0, " + k + ")", x.corner(0, 0, k), NONE);
        }
    }

    private static void lives() {
        SproutTable x = table(2);
        x.join(0, 0, 0, 1, 0, 0);
        DUE.is("lives(0)", x.lives(0), 2);
        DUE.is("lives(1)", x.lives(1), 2);
        DUE.is("lives(2)", x.lives(2), 1);
        x.join(0, 0, 0, 0, 0, 0);
        DUE.is("lives(0), both ends there", x.lives(0), 0);
        DUE.is("lives(3)", x.lives(3), 1);
        DUE.is("lives(4)", x.lives(4), NONE);
        for (int spot : WRONG) {
            DUE.is("lives(" + spot + ")", x.lives(spot), NONE);
        }
    }

    private static void joinTwoWalls() {
        SproutTable x = table(4);
        DUE.is("join", x.join(0, 1, 0, 2, 0, 0), 4);
        shows("1 and 2 joined", x, "0, 1 4 2 4, 3", "32231");
        DUE.is("join", x.join(0, 0, 0, 2, 0, 0), 5);
        shows("0 and 3 joined", x, "0 5 3 5, 1 4 2 4", "222211");
    }

    private static void joinWallsWithCurves() {
        SproutTable x = table(4);
        x.join(0, 0, 0, 1, 0, 0);
        x.join(0, 1, 0, 2, 0, 0);
        shows("two pieces", x, "0 4 1 4, 2 5 3 5", "222211");
        DUE.is("join", x.join(0, 0, 1, 1, 2, 0), 6);
        shows("4 and 3 joined", x, "4 1 4 0 4 6 3 5 2 5 3 6", "2221011");
    }

    private static void divideAlone() {
        SproutTable x = table(1);
        DUE.is("join", x.join(0, 0, 0, 0, 0, 0), 1);
        shows("a loop", x, "0 1 | 0 1", "11");
        DUE.is("count(5)", x.count(5), 1);
    }

    private static void divideAtOneCorner() {
        SproutTable x = table(2);
        x.join(0, 0, 0, 1, 0, 0);
        DUE.is("join", x.join(0, 0, 2, 0, 2, 0), 3);
        shows("a loop at 1", x, "1 3 | 1 2 0 2 1 3", "2011");
    }

    private static void divideAtTwoCorners() {
        SproutTable x = table(2);
        x.join(0, 0, 0, 1, 0, 0);
        DUE.is("join", x.join(0, 0, 1, 0, 2, 0), 3);
        shows("2 and 1 joined again", x, "2 1 3 | 1 2 0 2 3", "2101");
        DUE.is("join", x.join(1, 0, 2, 0, 4, 0), 4);
        shows("0 and 3 joined", x, "2 1 3 | 0 2 3 4 | 3 1 2 0 4", "11001");
    }

    private static void divideWithSides() {
        SproutTable x = table(4);
        DUE.is("join, side 5", x.join(0, 2, 0, 2, 0, 5), 4);
        shows("loop at 2, 0 and 3 go", x, "2 4, 1 | 2 4, 0, 3", "33131");
        DUE.is("join, side 2", x.join(1, 0, 0, 0, 1, 2), 5);
        shows("3 goes once more", x, "2 4, 1 | 2 4 5, 0 | 4 2 5, 3", "330301");
        x.begin(8);
        DUE.is("join, side 128", x.join(0, 7, 0, 7, 0, 128), NONE);
        DUE.is("join, side 127", x.join(0, 7, 0, 7, 0, 127), 8);
        shows("all go", x, "7 8 | 7 8, 0, 1, 2, 3, 4, 5, 6", "333333311");
        x.begin(3);
        DUE.is("join, side 0", x.join(0, 1, 0, 1, 0, 0), 3);
        shows("none goes", x, "1 3, 0, 2 | 1 3", "3131");
    }

    private static void joinRefused() {
        SproutTable x = table(3);
        x.join(0, 0, 0, 1, 0, 0);
        shows("before", x, "0 3 1 3, 2", "2231");
        String before = game(x);
        int[][] refused = {
            {1, 0, 0, 0, 0, 0}, {0, 2, 0, 2, 0, 0}, {0, 0, 4, 0, 4, 0}, {0, 0, 0, 2, 0, 0}, {0, 0, 0, 0, 4, 0},
            {0, 0, 0, 1, 1, 0}, {0, 1, 0, 0, 0, 0}, {0, 0, 2, 0, 0, 0}, {0, 0, 0, 1, 0, 1}, {0, 0, 0, 0, 2, 2},
            {0, 0, 1, 0, 1, 0}, {0, 0, 1, 0, 3, 0}, {0, 0, 3, 0, 3, 1}, {0, 0, 3, 0, 1, 0},
        };
        for (int[] m : refused) {
            DUE.is("refused join", x.join(m[0], m[1], m[2], m[3], m[4], m[5]), NONE);
        }
        for (int wrong : WRONG) {
            for (int part = 0; part < 6; part++) {
                int[] m = {0, 0, 0, 0, 2, 0};
                m[part] = wrong;
                DUE.is("join with a wrong part", x.join(m[0], m[1], m[2], m[3], m[4], m[5]), NONE);
            }
        }
        text("refused", game(x), before);
        DUE.is("join", x.join(0, 0, 0, 0, 2, 1), 4);
        shows("behind", x, "0 3 1 4 | 1 3 0 4, 2", "11311");
    }

    /** A spot with one life can't have both ends, one without a life none. */
    private static void lastLives() {
        SproutTable x = table(1);
        x.join(0, 0, 0, 0, 0, 0);
        DUE.is("both ends at one life", x.join(0, 0, 0, 0, 0, 0), NONE);
        DUE.is("two spots of one life", x.join(0, 0, 0, 0, 1, 0), 2);
        shows("all but one dead", x, "0 1 2 | 0 1 | 1 0 2", "001");
        DUE.is("no life", x.join(0, 0, 0, 0, 2, 0), NONE);
        DUE.is("no life", x.join(1, 0, 0, 0, 1, 0), NONE);
    }

    private static void moves() {
        int[] want = {1, 5, 15, 38, 90, 207, 469, 1052};
        for (int n = 1; n <= 8; n++) {
            DUE.is("moves() of " + n, table(n).moves(), want[n - 1]);
        }
        SproutTable x = table(1);
        x.move(0);
        DUE.is("moves() of a loop", x.moves(), 2);
        x.move(0);
        DUE.is("moves() at the end", x.moves(), 0);
        x.begin(2);
        x.join(0, 0, 0, 1, 0, 0);
        DUE.is("moves() of one wall", x.moves(), 7);
    }

    private static void move() {
        SproutTable x = table(3);
        DUE.is("move(15)", x.move(15), NONE);
        for (int k : WRONG) {
            DUE.is("move(" + k + ")", x.move(k), NONE);
        }
        DUE.is("count(2)", x.count(2), 0);
        DUE.is("move(14)", x.move(14), 3);
        shows("move(14)", x, "2 3 | 2 3, 0, 1", "3311");
        DUE.is("undo()", x.undo(), 0);
        DUE.is("move(0)", x.move(0), 3);
        shows("move(0)", x, "0 3, 1, 2 | 0 3", "1331");
        x.begin(3);
        DUE.is("move(5)", x.move(5), 3);
        shows("move(5)", x, "0 3 2 3, 1", "2321");
    }

    private static void tell() {
        SproutTable x = table(2);
        x.join(0, 0, 0, 1, 0, 0);
        int[][] want = {
            {0, 0, 0, 0, 0, 0}, {0, 0, 0, 0, 1, 0}, {0, 0, 0, 0, 2, 0}, {0, 0, 0, 0, 3, 0},
            {0, 0, 1, 0, 2, 0}, {0, 0, 2, 0, 2, 0}, {0, 0, 2, 0, 3, 0},
        };
        for (int k = 0; k < want.length; k++) {
            for (int what = 0; what < 6; what++) {
                DUE.is("tell(" + k + ", " + what + ")", x.tell(k, what), want[k][what]);
            }
        }
        DUE.is("tell(7, 0)", x.tell(7, 0), NONE);
        DUE.is("tell(0, 6)", x.tell(0, 6), NONE);
        for (int wrong : WRONG) {
            DUE.is("tell(" + wrong + ", 0)", x.tell(wrong, 0), NONE);
            DUE.is("tell(0, " + wrong + ")", x.tell(0, wrong), NONE);
        }
        tellSidesAndFields();
    }

    private static void tellSidesAndFields() {
        SproutTable x = table(3);
        x.join(0, 0, 0, 0, 0, 2);
        int[][] want = {
            {0, 0, 0, 0, 1, 0}, {0, 0, 0, 0, 1, 1}, {0, 0, 0, 1, 0, 0}, {0, 0, 1, 1, 0, 0},
            {0, 1, 0, 1, 0, 0}, {0, 1, 0, 1, 0, 1}, {1, 0, 0, 0, 1, 0}, {1, 0, 0, 0, 1, 1},
            {1, 0, 0, 1, 0, 0}, {1, 0, 1, 1, 0, 0}, {1, 1, 0, 1, 0, 0}, {1, 1, 0, 1, 0, 1},
        };
        DUE.is("moves()", x.moves(), want.length);
        for (int k = 0; k < want.length; k++) {
            for (int what = 0; what < 6; what++) {
                DUE.is("tell(" + k + ", " + what + ")", x.tell(k, what), want[k][what]);
            }
        }
    }

    private static void undo() {
        SproutTable x = table(3);
        DUE.is("undo()", x.undo(), NONE);
        String start = game(x);
        x.join(0, 1, 0, 2, 0, 0);
        String one = game(x);
        x.join(0, 0, 0, 0, 0, 1);
        String two = game(x);
        x.join(1, 1, 0, 1, 0, 1);
        DUE.is("undo()", x.undo(), 2);
        text("undo of the third", game(x), two);
        DUE.is("undo()", x.undo(), 1);
        text("undo of the second", game(x), one);
        x.join(0, 0, 0, 0, 0, 1);
        text("second made once more", game(x), two);
        x.undo();
        DUE.is("undo()", x.undo(), 0);
        text("undo of the first", game(x), start);
        DUE.is("undo()", x.undo(), NONE);
        x.move(0);
        x.begin(3);
        DUE.is("undo() in a new game", x.undo(), NONE);
    }

    private static void made() {
        SproutTable x = table(3);
        int[][] moves = {{0, 1, 0, 2, 0, 0}, {0, 0, 0, 0, 0, 1}, {1, 1, 0, 1, 2, 1}};
        for (int[] m : moves) {
            DUE.is("join", x.join(m[0], m[1], m[2], m[3], m[4], m[5]) >= 0, true);
        }
        for (int t = 0; t < moves.length; t++) {
            for (int what = 0; what < 6; what++) {
                DUE.is("made(" + t + ", " + what + ")", x.made(t, what), moves[t][what]);
            }
        }
        DUE.is("made(3, 0)", x.made(3, 0), NONE);
        DUE.is("made(0, 6)", x.made(0, 6), NONE);
        for (int wrong : WRONG) {
            DUE.is("made(" + wrong + ", 0)", x.made(wrong, 0), NONE);
            DUE.is("made(0, " + wrong + ")", x.made(0, wrong), NONE);
        }
        x.undo();
        DUE.is("made(2, 0) taken back", x.made(2, 0), NONE);
        int k = 1;
        int want = x.tell(k, 4);
        x.move(k);
        DUE.is("made(2, 4) by move", x.made(2, 4), want);
        x.begin(3);
        DUE.is("made(0, 0) in a new game", x.made(0, 0), NONE);
    }

    private static void nim() {
        SproutTable x = table(1);
        DUE.is("nim() of one spot", x.nim(), 0);
        x.move(0);
        DUE.is("nim() of a loop", x.nim(), 1);
        x.move(0);
        DUE.is("nim() at the end", x.nim(), 0);
        x.begin(2);
        DUE.is("nim() of two spots", x.nim(), 0);
        x.begin(3);
        DUE.is("nim() of nine lives", x.nim(), 1);
        DUE.is("count(2) behind nim()", x.count(2), 0);
        x.begin(4);
        DUE.is("nim() of twelve lives", x.nim(), NONE);
        x.move(0);
        x.move(0);
        DUE.is("lives", x.count(3), 10);
        DUE.is("nim() of ten lives", x.nim(), NONE);
        x.move(0);
        DUE.is("nim() of nine lives", x.nim() >= 0, true);
    }

    private static void best() {
        SproutTable x = table(1);
        DUE.is("best() of one spot", x.best(), NONE);
        x.move(0);
        DUE.is("best() of a loop", x.best(), 0);
        x.move(0);
        DUE.is("best() at the end", x.best(), NONE);
        x.begin(2);
        DUE.is("best() of a lost game", x.best(), NONE);
        x.begin(3);
        int k = x.best();
        DUE.is("best() of three spots", k >= 0, true);
        for (int before = 0; before < k; before++) {
            x.move(before);
            DUE.is("nim() behind " + before, x.nim() > 0, true);
            x.undo();
        }
        x.move(k);
        DUE.is("nim() behind best()", x.nim(), 0);
        x.begin(4);
        DUE.is("best() of twelve lives", x.best(), NONE);
        x.move(0);
        x.move(0);
        DUE.is("best() of ten lives", x.best(), NONE);
    }

    private static void imageAndAgain() {
        SproutTable x = table(3);
        x.move(5);
        x.move(3);
        String first = game(x);
        DUE.is("image(0)", x.image(0), true);
        x.undo();
        String second = game(x);
        DUE.is("image(3)", x.image(3), true);
        x.move(0);
        x.begin(8);
        DUE.is("again(1)", x.again(1), false);
        DUE.is("again(2)", x.again(2), false);
        DUE.is("again(0)", x.again(0), true);
        text("again(0)", game(x), first);
        DUE.is("undo() in an image", x.undo(), 1);
        text("undo() in an image", game(x), second);
        x.move(0);
        DUE.is("again(0)", x.again(0), true);
        text("again(0) once more", game(x), first);
        DUE.is("again(3)", x.again(3), true);
        text("again(3)", game(x), second);
        x.begin(5);
        String third = game(x);
        DUE.is("image(0) anew", x.image(0), true);
        x.again(3);
        x.again(0);
        text("again(0) behind a new image", game(x), third);
        for (int k : new int[] {4, -1, 1000, Integer.MAX_VALUE, Integer.MIN_VALUE}) {
            DUE.is("image(" + k + ")", x.image(k), false);
            DUE.is("again(" + k + ")", x.again(k), false);
        }
        text("refused images", game(x), third);
        DUE.is("again(0) of another object", new SproutTable().again(0), false);
    }

    private static void refusedChangesNothing() {
        SproutTable x = table(3);
        x.move(14);
        x.image(2);
        x.move(6);
        String before = game(x);
        x.begin(0);
        x.begin(9);
        x.join(0, 0, 0, 0, 0, 8);
        x.move(x.moves());
        x.move(-1);
        x.tell(-1, 0);
        x.again(0);
        x.image(4);
        x.nim();
        x.best();
        text("refused", game(x), before);
        DUE.is("undo()", x.undo(), 1);
    }

    /** The last move every time, to the end of a game of eight: never more than 23 moves. */
    private static void wholeGameOfEight() {
        for (int way = 0; way < 3; way++) {
            SproutTable x = table(8);
            int made = 0;
            for (int many = x.moves(); many > 0 && made < 24; many = x.moves()) {
                DUE.is("move", x.move(way == 0 ? 0 : way == 1 ? many - 1 : many / 2), 8 + made);
                made++;
            }
            DUE.is("count(2)", x.count(2), made);
            DUE.is("at least two moves a spot", made >= 16, true);
            DUE.is("at most three moves a spot, less one", made <= 23, true);
            DUE.is("count(3)", x.count(3), 24 - made);
            DUE.is("move(0) at the end", x.move(0), NONE);
            DUE.is("nim() at the end", x.nim(), 0);
        }
    }
}
