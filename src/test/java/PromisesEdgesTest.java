/** Each sentence of the promises that names a boundary case, by itself. */
public final class PromisesEdgesTest {
    private static final int NONE = -1;
    private static final int TRUE = 1;
    private static final int FALSE = 0;
    private static final Due DUE = new Due();
    // "2 4, 1 | 2 4 5, 0 | 4 2 5, 3": fields and walls of unlike sizes.
    private static final String THREE_FIELDS = "begin 4; join 0 2 0 2 0 5; join 1 0 0 0 1 2";
    private static final String OVER = "begin 1; move 0; move 0";
    // The longest game that there is: 23 moves.
    private static final String LONGEST = "begin 8" + "; move 0".repeat(23);
    private static final String[] POSITIONS = {"", "begin 1", "begin 8", "begin 3; join 0 0 0 0 0 2",
        "begin 2; join 0 0 0 1 0 0", THREE_FIELDS, THREE_FIELDS + "; undo", OVER, OVER + "; undo", LONGEST};

    public static void main(String[] args) {
        newObjectHasTwoSpots();
        newObjectHasNoImages();
        beginOfAnotherNumber();
        beginForgetsTheMoves();
        beginKeepsTheImages();
        countOfAnotherWhat();
        countOfAFullTable();
        wallsOfNoField();
        cornersOfNoWall();
        cornerThatIsNone();
        livesOfNoSpot();
        joinOfNoFieldWallOrCorner();
        joinNotInOrder();
        joinOfAnotherSide();
        joinThatCannotBeDone();
        movesToTheLast();
        moveThatIsNone();
        moveIsTheOneTold();
        tellOfNoMove();
        tellOfAnotherWhat();
        undoOfNoMove();
        undoToTheFirst();
        madeOfNoMove();
        madeOfAnotherWhat();
        nimOfTenLives();
        bestIsTheFirst();
        bestThatIsNone();
        bestOfTenLives();
        imageOfAnotherNumber();
        imageIsTheGameAsItIsNow();
        imageOfAFullGame();
        againThatIsNone();
        againWithItsMoves();
        DUE.end();
    }

    private static void due(String calls, long want) {
        DUE.is(calls, Run.answer(calls), want);
    }

    private static void sameGame(String calls, String as) {
        DUE.same(calls + " is " + as, Run.game(calls), Run.game(as));
    }

    private static int ask(String calls) {
        return (int) Run.answer(calls);
    }

    /** "A game of two SPOTS" */
    private static void newObjectHasTwoSpots() {
        sameGame("", "begin 2");
        due("count 0", 2);
        due("count 1", 1);
        due("count 2", 0);
        due("undo", NONE);
        due("made 0 0", NONE);
    }

    /** "no images" */
    private static void newObjectHasNoImages() {
        for (int k = 0; k <= 3; k++) {
            due("again " + k, FALSE);
            sameGame("move 2; again " + k, "move 2");
        }
        due("image 0; again 0", TRUE);
        due("again 0", FALSE);
    }

    /** "false for another n" */
    private static void beginOfAnotherNumber() {
        for (int n = 1; n <= 8; n++) {
            due("begin " + n, TRUE);
            due(THREE_FIELDS + "; begin " + n + "; count 0", n);
        }
        for (int n : Outside.of(1, 8)) {
            due("begin " + n, FALSE);
            sameGame(THREE_FIELDS + "; begin " + n, THREE_FIELDS);
        }
    }

    private static void beginForgetsTheMoves() {
        for (int n = 1; n <= 8; n++) {
            sameGame(LONGEST + "; begin " + n, "begin " + n);
            due(THREE_FIELDS + "; begin " + n + "; undo", NONE);
            due(THREE_FIELDS + "; begin " + n + "; made 0 0", NONE);
        }
        sameGame(THREE_FIELDS + "; begin 4", "begin 4");
    }

    private static void beginKeepsTheImages() {
        for (int k = 0; k <= 3; k++) {
            sameGame(THREE_FIELDS + "; image " + k + "; begin 8; again " + k, THREE_FIELDS);
            sameGame("image " + k + "; begin 8; begin 0; again " + k, "begin 2");
        }
    }

    /** "NONE for another what." */
    private static void countOfAnotherWhat() {
        for (String position : POSITIONS) {
            for (int what = 0; what <= 5; what++) {
                DUE.is(position + "; count " + what, ask(position + "; count " + what) >= 0, true);
            }
            for (int what : Outside.of(0, 5)) {
                due(position + "; count " + what, NONE);
            }
        }
    }

    private static void countOfAFullTable() {
        counts("begin 1", 1, 1, 0, 3, 1, 1);
        counts("begin 8", 8, 1, 0, 24, 8, 8);
        counts(LONGEST, 31, 17, 23, 1, 17, 1);
        counts(OVER, 3, 3, 2, 1, 3, 1);
        counts(THREE_FIELDS, 6, 3, 2, 10, 6, 4);
    }

    private static void counts(String calls, int... want) {
        for (int what = 0; what < want.length; what++) {
            due(calls + "; count " + what, want[what]);
        }
    }

    /** 'walls': "NONE: there is none such." */
    private static void wallsOfNoField() {
        for (String position : POSITIONS) {
            int fields = ask(position + "; count 1");
            DUE.is(position + ": the last field", ask(position + "; walls " + (fields - 1)) > 0, true);
            for (int field : Outside.of(0, fields - 1)) {
                due(position + "; walls " + field, NONE);
            }
        }
    }

    /** 'corners': "NONE: there is none such." */
    private static void cornersOfNoWall() {
        for (String position : POSITIONS) {
            int fields = ask(position + "; count 1");
            for (int field : Outside.of(0, fields - 1)) {
                due(position + "; corners " + field + " 0", NONE);
                due(position + "; corners " + field + " -1", NONE);
            }
            for (int field = 0; field < fields; field++) {
                int walls = ask(position + "; walls " + field);
                String begun = position + "; corners " + field + " ";
                DUE.is(begun + (walls - 1), ask(begun + (walls - 1)) > 0, true);
                for (int wall : Outside.of(0, walls - 1)) {
                    due(begun + wall, NONE);
                }
            }
        }
    }

    /** 'corner': "NONE: there is none such." */
    private static void cornerThatIsNone() {
        for (String position : POSITIONS) {
            int fields = ask(position + "; count 1");
            for (int field : Outside.of(0, fields - 1)) {
                due(position + "; corner " + field + " 0 0", NONE);
            }
            for (int field = 0; field < fields; field++) {
                int walls = ask(position + "; walls " + field);
                for (int wall : Outside.of(0, walls - 1)) {
                    due(position + "; corner " + field + " " + wall + " 0", NONE);
                }
                for (int wall = 0; wall < walls; wall++) {
                    noCornerBeyond(position, field + " " + wall);
                }
            }
        }
    }

    private static void noCornerBeyond(String position, String wall) {
        int corners = ask(position + "; corners " + wall);
        String begun = position + "; corner " + wall + " ";
        DUE.is(begun + (corners - 1), ask(begun + (corners - 1)) >= 0, true);
        for (int k : Outside.of(0, corners - 1)) {
            due(begun + k, NONE);
        }
    }

    /** 'lives': "NONE: there is none such." */
    private static void livesOfNoSpot() {
        for (String position : POSITIONS) {
            int spots = ask(position + "; count 0");
            DUE.is(position + ": the last spot", ask(position + "; lives " + (spots - 1)) >= 0, true);
            for (int spot : Outside.of(0, spots - 1)) {
                due(position + "; lives " + spot, NONE);
            }
        }
        due("move 0; lives 2", 1);
        due("move 0; undo; lives 2", NONE);
        due("begin 8; begin 1; lives 1", NONE);
    }

    /** "there is no such FIELD, WALL or CORNER" */
    private static void joinOfNoFieldWallOrCorner() {
        String position = "begin 3; join 0 0 0 1 0 0; join 0 0 0 0 2 0";
        DUE.same(position, Run.fields(position), "0 3 1 4, 2 | 1 3 0 4");
        due(position + "; join 1 0 0 0 2 0", 5);
        due(position + "; join 0 0 3 1 0 0", 5);
        for (int field : Outside.of(0, 1)) {
            due(position + "; join " + field + " 0 0 0 2 0", NONE);
            due(position + "; join " + field + " 0 0 1 0 0", NONE);
        }
        for (int wall : Outside.of(0, 1)) {
            due(position + "; join 0 0 0 " + wall + " 0 0", NONE);
            due(position + "; join 0 " + wall + " 0 1 0 0", NONE);
            due(position + "; join 0 " + wall + " 0 " + wall + " 0 0", NONE);
        }
        due(position + "; join 1 0 0 1 0 0", NONE);
        for (int corner : Outside.of(0, 3)) {
            due(position + "; join 0 0 " + corner + " 1 0 0", NONE);
            due(position + "; join 0 0 0 0 " + corner + " 0", NONE);
            due(position + "; join 1 0 " + corner + " 0 " + corner + " 0", NONE);
        }
        for (int corner : Outside.of(0, 0)) {
            due(position + "; join 0 0 0 1 " + corner + " 0", NONE);
            due(position + "; join 0 1 0 1 " + corner + " 0", NONE);
        }
    }

    /** "they are not told in order" */
    private static void joinNotInOrder() {
        due("join 0 1 0 0 0 0", NONE);
        due("begin 8; join 0 7 0 6 0 0", NONE);
        due("begin 8; join 0 6 0 7 0 0", 8);
        due("begin 1; move 0; join 0 0 1 0 0 0", NONE);
        due("begin 1; move 0; join 0 0 0 0 1 0", 2);
    }

    /** "the SIDE is another one" */
    private static void joinOfAnotherSide() {
        for (int side : Outside.of(0, 0)) {
            due("begin 1; join 0 0 0 0 0 " + side, NONE);
            due("begin 3; join 0 0 0 2 0 " + side, NONE);
        }
        for (int side : Outside.of(0, 127)) {
            due("begin 8; join 0 4 0 4 0 " + side, NONE);
        }
        for (int side = 0; side <= 127; side++) {
            due("begin 8; join 0 4 0 4 0 " + side, 8);
        }
    }

    /** "or it can't be done" */
    private static void joinThatCannotBeDone() {
        String loop = "begin 1; move 0";
        due(loop + "; join 0 0 0 0 0 0", NONE);
        due(loop + "; join 0 0 1 0 1 0", NONE);
        due(loop + "; join 1 0 0 0 0 0", NONE);
        for (int field = 0; field <= 2; field++) {
            for (int i = 0; i <= 2; i++) {
                for (int j = i; j <= 2; j++) {
                    due(OVER + "; join " + field + " 0 " + i + " 0 " + j + " 0", NONE);
                }
            }
        }
    }

    private static void movesToTheLast() {
        due("begin 1; moves", 1);
        due("begin 8; moves", 1052);
        due(OVER + "; moves", 0);
        due(LONGEST + "; moves", 0);
        due(LONGEST + "; undo; moves", 2);
    }

    /** 'move': "NONE: there is none such." */
    private static void moveThatIsNone() {
        for (String position : POSITIONS) {
            int many = ask(position + "; moves");
            int spots = ask(position + "; count 0");
            if (many > 0) {
                due(position + "; move 0", spots);
                due(position + "; move " + (many - 1), spots);
            }
            due(position + "; move " + many, NONE);
            due(position + "; move -1", NONE);
            for (int k : Outside.of(0, Math.max(0, many - 1))) {
                due(position + "; move " + k, NONE);
            }
        }
    }

    private static void moveIsTheOneTold() {
        for (String position : POSITIONS) {
            int many = ask(position + "; moves");
            for (int k = 0; k < many; k += many > 100 ? 50 : 1) {
                StringBuilder told = new StringBuilder("join");
                for (int what = 0; what <= 5; what++) {
                    told.append(' ').append(ask(position + "; tell " + k + " " + what));
                }
                sameGame(position + "; move " + k, position + "; " + told);
            }
        }
    }

    /** 'tell': "NONE if there is none such" */
    private static void tellOfNoMove() {
        for (String position : POSITIONS) {
            int many = ask(position + "; moves");
            for (int what = 0; what <= 5; what++) {
                due(position + "; tell " + many + " " + what, NONE);
                due(position + "; tell -1 " + what, NONE);
                if (many > 0) {
                    String last = position + "; tell " + (many - 1) + " " + what;
                    DUE.is(last, ask(last) >= 0, true);
                }
            }
            for (int k : Outside.of(0, Math.max(0, many - 1))) {
                due(position + "; tell " + k + " 0", NONE);
                due(position + "; tell " + k + " 6", NONE);
            }
        }
    }

    /** 'tell': "or for another what" */
    private static void tellOfAnotherWhat() {
        for (int what : Outside.of(0, 5)) {
            for (String position : POSITIONS) {
                due(position + "; tell 0 " + what, NONE);
            }
            due("begin 8; tell 1051 " + what, NONE);
        }
        due("begin 8; tell 1051 5", 127);
        due("begin 8; tell 1051 1", 7);
    }

    /** 'undo': "NONE if there is none." */
    private static void undoOfNoMove() {
        due("undo", NONE);
        due("begin 8; undo", NONE);
        due("move 0; undo; undo", NONE);
        due("move 0; undo; undo; undo; move 0; undo", 0);
        due("move 0; begin 2; undo", NONE);
        due("image 1; move 0; again 1; undo", NONE);
        due("move 99; undo", NONE);
        sameGame("begin 8; undo", "begin 8");
    }

    /** "The latest move of this game is taken back: how many are left." */
    private static void undoToTheFirst() {
        for (int back = 1; back <= 23; back++) {
            due(LONGEST + "; undo".repeat(back), 23 - back);
            sameGame(LONGEST + "; undo".repeat(back), "begin 8" + "; move 0".repeat(23 - back));
        }
        due(LONGEST + "; undo".repeat(24), NONE);
        sameGame(THREE_FIELDS + "; undo; undo", "begin 4");
    }

    /** 'made': "NONE if there is none such" */
    private static void madeOfNoMove() {
        for (String position : POSITIONS) {
            int made = ask(position + "; count 2");
            for (int what = 0; what <= 5; what++) {
                due(position + "; made " + made + " " + what, NONE);
                if (made > 0) {
                    String last = position + "; made " + (made - 1) + " " + what;
                    DUE.is(last, ask(last) >= 0, true);
                }
            }
            for (int t : Outside.of(0, Math.max(0, made - 1))) {
                due(position + "; made " + t + " 0", NONE);
            }
            due(position + "; made 23 0", NONE);
        }
        due("move 0; undo; made 0 0", NONE);
        due("image 0; move 0; again 0; made 0 0", NONE);
        due("move 99; made 0 0", NONE);
    }

    /** 'made': "or for another what" */
    private static void madeOfAnotherWhat() {
        for (int what : Outside.of(0, 5)) {
            for (String position : POSITIONS) {
                due(position + "; made 0 " + what, NONE);
            }
            due(LONGEST + "; made 22 " + what, NONE);
        }
        int[] want = {1, 0, 0, 0, 1, 2};
        for (int what = 0; what <= 5; what++) {
            due(THREE_FIELDS + "; made 1 " + what, want[what]);
        }
    }

    /** 'nim': "NONE: there are more than 9 LIVES." */
    private static void nimOfTenLives() {
        due(THREE_FIELDS + "; nim", NONE);
        due("begin 8; nim", NONE);
        due("begin 4; nim", NONE);
        due("begin 3; nim", 1);
        due("begin 3; nim; begin 4; nim", NONE);
        due("begin 4; nim; begin 3; nim", 1);
        for (int k = 0; k < ask(THREE_FIELDS + "; moves"); k++) {
            DUE.is("nine lives, move " + k, ask(THREE_FIELDS + "; move " + k + "; nim"),
                    leastBehind(THREE_FIELDS + "; move " + k));
        }
    }

    private static int leastBehind(String position) {
        boolean[] reached = new boolean[64];
        int many = ask(position + "; moves");
        for (int k = 0; k < many; k++) {
            reached[ask(position + "; move " + k + "; nim")] = true;
        }
        int least = 0;
        while (least < reached.length && reached[least]) {
            least++;
        }
        return least;
    }

    /** "the first move, in THE ORDER, behind which NIM is 0" */
    private static void bestIsTheFirst() {
        best("begin 1; move 0", 0);
        best("begin 2; move 0", 6);
        best("begin 2; move 2", 2);
        best("begin 2; move 4", 0);
        best("begin 2; move 2; move 6", 4);
        best("begin 2; move 2; move 0", 1);
        best("begin 2; move 0; move 4", 2);
        best("begin 3; move 3; move 6; move 6; move 7", 1);
        best("begin 3", ask("begin 3; best"));
    }

    private static void best(String position, int want) {
        due(position + "; best", want);
        for (int k = 0; k < want; k++) {
            DUE.is(position + "; move " + k, ask(position + "; move " + k + "; nim") != 0, true);
        }
        due(position + "; move " + want + "; nim", 0);
    }

    /** 'best': "NONE: there is none such" */
    private static void bestThatIsNone() {
        due("begin 1; best", NONE);
        due("begin 2; best", NONE);
        due("begin 2; move 2; move 2; best", NONE);
        due("begin 3; move 4; move 8; move 9; best", NONE);
        due(OVER + "; best", NONE);
        due(LONGEST + "; best", NONE);
    }

    /** "or there are more than 9 LIVES": though nine are left behind a move that leads to 0. */
    private static void bestOfTenLives() {
        int toZero = 0;
        for (int k = 0; k < ask(THREE_FIELDS + "; moves"); k++) {
            toZero += ask(THREE_FIELDS + "; move " + k + "; nim") == 0 ? 1 : 0;
        }
        DUE.is("some move of ten lives leads to 0", toZero > 0, true);
        due(THREE_FIELDS + "; best", NONE);
        due("begin 4; best", NONE);
        due("begin 8; best", NONE);
        due("begin 3; best; begin 4; best", NONE);
    }

    /** 'image': "false for another k" */
    private static void imageOfAnotherNumber() {
        for (int k = 0; k <= 3; k++) {
            due("image " + k, TRUE);
        }
        for (int k : Outside.of(0, 3)) {
            due("image " + k, FALSE);
            due("image " + k + "; again " + k, FALSE);
            for (int kept = 0; kept <= 3; kept++) {
                due("image " + k + "; again " + kept, FALSE);
                sameGame("image " + kept + "; move 0; image " + k + "; again " + kept, "begin 2");
            }
        }
    }

    /** "Image k (0 .. 3) is the game as it is now" */
    private static void imageIsTheGameAsItIsNow() {
        String four = "image 0; move 0; image 1; move 0; image 2; begin 5; move 3; image 3; begin 1; ";
        sameGame(four + "again 0", "begin 2");
        sameGame(four + "again 1", "move 0");
        sameGame(four + "again 2", "move 0; move 0");
        sameGame(four + "again 3", "begin 5; move 3");
        sameGame(four + "image 2; again 3; again 2", "begin 1");
        sameGame(four + "image 2; again 1", "move 0");
        sameGame("move 2; image 0; move 0; undo; undo; move 1; again 0", "move 2");
        sameGame("image 0; again 0; move 0; undo; move 1; again 0", "begin 2");
        sameGame("move 2; image 0; again 0; image 1; begin 8; again 1", "move 2");
    }

    private static void imageOfAFullGame() {
        for (int k = 0; k <= 3; k++) {
            sameGame(LONGEST + "; image " + k + "; begin 1; again " + k, LONGEST);
            due(LONGEST + "; image " + k + "; begin 1; again " + k + "; undo", 22);
        }
        sameGame(LONGEST + "; image 0; begin 1; image 0; again 0", "begin 1");
        due(LONGEST + "; image 0; begin 1; image 0; again 0; made 0 0", NONE);
    }

    /** 'again': "false if there is none such" */
    private static void againThatIsNone() {
        for (int kept = 0; kept <= 3; kept++) {
            for (int k = 0; k <= 3; k++) {
                due("image " + kept + "; again " + k, k == kept ? TRUE : FALSE);
                sameGame("image " + kept + "; move 2; again " + k, k == kept ? "begin 2" : "move 2");
            }
        }
        String all = "image 0; image 1; image 2; image 3; " + THREE_FIELDS;
        for (int k : Outside.of(0, 3)) {
            due("again " + k, FALSE);
            due(all + "; again " + k, FALSE);
            sameGame(all + "; again " + k, THREE_FIELDS);
        }
    }

    /** "The game is as image k has it", "with its moves" */
    private static void againWithItsMoves() {
        String again = THREE_FIELDS + "; image 2; begin 8; again 2";
        due(again + "; count 2", 2);
        due(again + "; made 1 5", 2);
        due(again + "; undo", 1);
        sameGame(again + "; undo", THREE_FIELDS + "; undo");
        due(again + "; undo; undo", 0);
        sameGame(again + "; undo; undo", "begin 4");
        due(again + "; undo; undo; undo", NONE);
        due(again + "; moves", ask(THREE_FIELDS + "; moves"));
        due(again + "; move 0", 6);
        due("begin 3; image 0; begin 8; again 0; nim", 1);
        due("begin 8; image 0; begin 3; again 0; nim", NONE);
    }
}
