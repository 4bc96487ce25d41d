import java.util.ArrayList;
import java.util.List;

/** Each sentence of 'What it is' and 'Terms' that names a boundary case, by itself. */
public final class TermsEdgesTest {
    private static final int NONE = -1;
    private static final Due DUE = new Due();
    // One wall, "0 2 1 2".
    private static final String CHAIN = "begin 2; join 0 0 0 1 0 0";
    // "0 3 | 0 2 1 2 0 3": spot 0 is dead, spot 1 has two lives, spots 2 and 3 have one.
    private static final String TAIL = CHAIN + "; join 0 0 0 0 0 0";

    public static void main(String[] args) {
        threeEndsAtMost();
        livesAreThreeLessEnds();
        numberedFromNull();
        spotWithoutCurves();
        firstSpots();
        toldInOrder();
        aLifeAtLeast();
        twoLivesIfOneSpot();
        leastNumberForTheNewSpot();
        roundOfUWrapsAround();
        roundOfVWrapsAround();
        roundWithoutCurves();
        sideOfTwoWalls();
        wallsBehindAreNumberedDown();
        dividedAtOneCorner();
        dividedAtTwoCorners();
        sideByBits();
        sideCountedWithoutU();
        newFieldIsTheLast();
        theOrder();
        constants();
        // Where moves are done that can't be, a game need not end, and so need not nim().
        DUE.endIfWrong();
        theLastOfAllCalls();
        over();
        leastNumber();
        nineLivesAtMost();
        DUE.end();
    }

    private static void due(String calls, long want) {
        DUE.is(calls, Run.answer(calls), want);
    }

    private static void shows(String calls, String fields) {
        DUE.same(calls, Run.fields(calls), fields);
    }

    private static void lives(String calls, String lives) {
        DUE.same(calls + ": lives", Run.lives(calls), lives);
    }

    private static String times(int many, String call) {
        return (call + "; ").repeat(many);
    }

    /** "three curve ends to a spot at most" */
    private static void threeEndsAtMost() {
        String star = "begin 4; join 0 0 0 1 0 0; join 0 0 0 1 0 0";
        lives(star, "122311");
        shows(star, "0 4 1 4 0 5 2 5, 3");
        lives(star + "; join 0 0 0 1 0 0", "0222111");
        due(star + "; join 0 0 0 1 0 0; join 0 0 0 0 1 0", NONE);
        for (int n = 1; n <= 8; n++) {
            String game = "begin " + n + "; " + times(3 * n - 1, "move 0");
            due(game + "count 2", 3 * n - 1);
            due(game + "count 3", 1);
            lives(game, "0".repeat(4 * n - 2) + "1");
        }
    }

    /** "An object is used for at most 512 calls after it has been made" */
    private static void theLastOfAllCalls() {
        due(times(511, "nim") + "nim", 0);
        due("begin 3; " + times(510, "nim") + "best", Run.answer("begin 3; best"));
        due(times(255, "move 2; undo") + "move 2; corners 0 0", 4);
        due(times(255, "begin 9; move 99") + "moves; undo", NONE);
        due(times(255, "begin 8; begin 1") + "begin 7; moves", 469);
        due("begin 8; " + times(23, "move 0") + times(243, "image 3; again 3") + "image 0; undo", 22);
        due("begin 3; move 5; " + times(509, "best") + "best", Run.answer("begin 3; move 5; best"));
    }

    /** "each has LIVES: 3 less the ends of curves at it" */
    private static void livesAreThreeLessEnds() {
        lives("begin 1", "3");
        lives("begin 2; join 0 0 0 1 0 0", "221");
        lives("begin 1; join 0 0 0 0 0 0", "11");
        lives("begin 1; join 0 0 0 0 0 0; join 0 0 0 0 1 0", "001");
        lives(TAIL, "0211");
    }

    /** "numbered from 0 on": the first is 0, the last one less than how many there are. */
    private static void numberedFromNull() {
        due("lives 0", 3);
        due("lives 1", 3);
        due("lives 2", NONE);
        due("walls 0", 2);
        due("walls 1", NONE);
        due("corners 0 1", 1);
        due("corners 0 2", NONE);
        due("corner 0 1 0", 1);
        due("corner 0 1 1", NONE);
        due(TAIL + "; walls 1", 1);
        due(TAIL + "; walls 2", NONE);
        due(TAIL + "; corner 1 0 5", 3);
        due(TAIL + "; corner 1 0 6", NONE);
        due(TAIL + "; lives 3", 1);
        due(TAIL + "; lives 4", NONE);
    }

    /** "A SPOT without curves is a WALL of one CORNER." */
    private static void spotWithoutCurves() {
        for (int k = 0; k < 8; k++) {
            due("begin 8; corners 0 " + k, 1);
            due("begin 8; corner 0 " + k + " 0", k);
            due("begin 8; corner 0 " + k + " 1", NONE);
        }
        shows("begin 3; join 0 0 0 0 0 2", "0 3, 1 | 0 3, 2");
    }

    /** "A game begins with n SPOTS, 1 .. 8, in one FIELD: WALL k is SPOT k." */
    private static void firstSpots() {
        StringBuilder walls = new StringBuilder();
        for (int n = 1; n <= 8; n++) {
            walls.append(n == 1 ? "" : ", ").append(n - 1);
            shows("begin " + n, walls.toString());
            lives("begin " + n, "3".repeat(n));
        }
        due("begin 0", 0);
        due("begin 9", 0);
    }

    /** "u <= v, and i <= j if u is v" */
    private static void toldInOrder() {
        due("join 0 0 0 1 0 0", 2);
        due("join 0 1 0 0 0 0", NONE);
        due("join 0 1 0 1 0 0", 2);
        due(CHAIN + "; join 0 0 0 0 2 0", 3);
        due(CHAIN + "; join 0 0 2 0 0 0", NONE);
        due(CHAIN + "; join 0 0 1 0 0 0", NONE);
        due(CHAIN + "; join 0 0 2 0 2 0", 3);
        due("begin 3; join 0 0 0 1 0 0; join 0 0 3 1 0 0", 4);
        due("begin 3; join 0 0 0 1 0 0; join 0 1 0 0 3 0", NONE);
    }

    /** "It can be done if a and b have a LIFE at least" */
    private static void aLifeAtLeast() {
        due(TAIL + "; join 1 0 0 0 2 0", NONE);
        due(TAIL + "; join 1 0 2 0 4 0", NONE);
        due(TAIL + "; join 1 0 0 0 4 0", NONE);
        due(TAIL + "; join 1 0 0 0 0 0", NONE);
        due(TAIL + "; join 1 0 1 0 2 0", 4);
        due(TAIL + "; join 1 0 1 0 5 0", 4);
        String deadFirst = "begin 3; join 0 0 0 1 0 0; join 0 0 0 0 0 0";
        shows(deadFirst, "0 4, 2 | 0 3 1 3 0 4");
        due(deadFirst + "; join 0 0 0 1 0 0", NONE);
        due(deadFirst + "; join 0 0 1 1 0 0", 5);
        String deadSecond = deadFirst + "; join 0 1 0 1 0 0";
        shows(deadSecond, "2 5, 0 4 | 0 3 1 3 0 4 | 2 5");
        due(deadSecond + "; join 0 0 0 1 0 0", NONE);
        due(deadSecond + "; join 0 0 0 1 1 0", 6);
    }

    /** "two if they are one SPOT" */
    private static void twoLivesIfOneSpot() {
        due("join 0 0 0 0 0 0", 2);
        due(CHAIN + "; join 0 0 0 0 0 0", 3);
        due(CHAIN + "; join 0 0 1 0 1 0", NONE);
        due(CHAIN + "; join 0 0 1 0 3 0", NONE);
        due(CHAIN + "; join 0 0 3 0 3 0", NONE);
        due(TAIL + "; join 0 0 0 0 0 0", NONE);
        due(TAIL + "; join 0 0 1 0 1 0", NONE);
        due(TAIL + "; join 1 0 2 0 2 0", 4);
    }

    /** "A new SPOT c comes, the least number that there is not yet" */
    private static void leastNumberForTheNewSpot() {
        for (int n = 1; n <= 8; n++) {
            due("begin " + n + "; move 0", n);
            due("begin " + n + "; move 0; undo; move 0", n);
            due("begin " + n + "; image 0; move 0; move 0; again 0; move 0", n);
            due("begin " + n + "; " + times(3 * n - 1, "move 0"), 4 * n - 2);
        }
        due("move 0; move 0; move 0; undo; undo; move 0", 3);
    }

    /** "from i to the last one, from 0 to i - 1, and that of i once more at the end" */
    private static void roundOfUWrapsAround() {
        String begun = "begin 3; join 0 0 0 1 0 0; ";
        shows(begun, "0 3 1 3, 2");
        shows(begun + "join 0 0 0 1 0 0", "0 3 1 3 0 4 2 4");
        shows(begun + "join 0 0 1 1 0 0", "3 1 3 0 3 4 2 4");
        shows(begun + "join 0 0 2 1 0 0", "1 3 0 3 1 4 2 4");
        shows(begun + "join 0 0 3 1 0 0", "3 0 3 1 3 4 2 4");
    }

    /** "V likewise of v from j on." */
    private static void roundOfVWrapsAround() {
        String begun = "begin 3; join 0 1 0 2 0 0; ";
        shows(begun, "0, 1 3 2 3");
        shows(begun + "join 0 0 0 1 0 0", "0 4 1 3 2 3 1 4");
        shows(begun + "join 0 0 0 1 1 0", "0 4 3 2 3 1 3 4");
        shows(begun + "join 0 0 0 1 2 0", "0 4 2 3 1 3 2 4");
        shows(begun + "join 0 0 0 1 3 0", "0 4 3 1 3 2 3 4");
        String both = "begin 4; join 0 0 0 1 0 0; join 0 1 0 2 0 0; ";
        shows(both, "0 4 1 4, 2 5 3 5");
        shows(both + "join 0 0 3 1 3 0", "4 0 4 1 4 6 5 2 5 3 5 6");
        shows(both + "join 0 0 0 1 1 0", "0 4 1 4 0 6 5 3 5 2 5 6");
    }

    /** "but if a has no curve yet that one CORNER alone" */
    private static void roundWithoutCurves() {
        shows("join 0 0 0 1 0 0", "0 2 1 2");
        shows("begin 1; join 0 0 0 0 0 0", "0 1 | 0 1");
        shows("begin 8; join 0 6 0 7 0 0", "0, 1, 2, 3, 4, 5, 6 8 7 8");
    }

    /** "u is not v: SIDE is 0." */
    private static void sideOfTwoWalls() {
        for (int side : Outside.of(0, 0)) {
            due("join 0 0 0 1 0 " + side, NONE);
            due("begin 8; join 0 3 0 5 0 " + side, NONE);
        }
        due("begin 8; join 0 3 0 5 0 0", 8);
    }

    /** "WALL v is no more, those behind it are numbered down." */
    private static void wallsBehindAreNumberedDown() {
        shows("begin 4; join 0 0 0 1 0 0", "0 4 1 4, 2, 3");
        shows("begin 4; join 0 0 0 2 0 0", "0 4 2 4, 1, 3");
        shows("begin 4; join 0 0 0 3 0 0", "0 4 3 4, 1, 2");
        shows("begin 4; join 0 1 0 2 0 0", "0, 1 4 2 4, 3");
        shows("begin 4; join 0 1 0 3 0 0", "0, 1 4 3 4, 2");
        shows("begin 4; join 0 2 0 3 0 0", "0, 1, 2 4 3 4");
        due("begin 4; join 0 2 0 3 0 0; corners 0 3", NONE);
    }

    /** "(of i alone if i is j), and c; the other WALL is, if i is j, U and c" */
    private static void dividedAtOneCorner() {
        shows("join 0 0 0 0 0 0", "0 2, 1 | 0 2");
        shows("join 0 1 0 1 0 1", "1 2 | 1 2, 0");
        shows(CHAIN + "; join 0 0 0 0 0 0", "0 3 | 0 2 1 2 0 3");
        shows(CHAIN + "; join 0 0 2 0 2 0", "1 3 | 1 2 0 2 1 3");
    }

    /** "from i to j", "else the CORNERS from j to the last one, from 0 to i, and c" */
    private static void dividedAtTwoCorners() {
        shows(CHAIN + "; join 0 0 0 0 1 0", "0 2 3 | 2 1 2 0 3");
        shows(CHAIN + "; join 0 0 0 0 2 0", "0 2 1 3 | 1 2 0 3");
        shows(CHAIN + "; join 0 0 0 0 3 0", "0 2 1 2 3 | 2 0 3");
        shows(CHAIN + "; join 0 0 1 0 2 0", "2 1 3 | 1 2 0 2 3");
        shows(CHAIN + "; join 0 0 2 0 3 0", "1 2 3 | 2 0 2 1 3");
        lives(CHAIN + "; join 0 0 0 0 3 0", "1201");
    }

    /** "SIDE tells by bits, 0 .. 2 to the power of how many WALLS there are else, less 1" */
    private static void sideByBits() {
        for (int n = 1; n <= 8; n++) {
            int sides = 1 << n - 1;
            for (int u = 0; u < n; u++) {
                String loop = "begin " + n + "; join 0 " + u + " 0 " + u + " 0 ";
                due(loop + 0, n);
                due(loop + (sides - 1), n);
                for (int side : Outside.of(0, sides - 1)) {
                    due(loop + side, NONE);
                }
            }
        }
        String two = "begin 3; join 0 0 0 0 0 2; join 1 0 0 0 1 ";
        due(two + 1, 4);
        due(two + 2, NONE);
        due(CHAIN + "; join 0 0 0 0 2 1", NONE);
        due(CHAIN + "; join 0 0 0 0 2 " + NONE, NONE);
    }

    /** "WALL w, counted without u, goes to the second one if bit w is 1" */
    private static void sideCountedWithoutU() {
        shows("begin 4; join 0 0 0 0 0 1", "0 4, 2, 3 | 0 4, 1");
        shows("begin 4; join 0 0 0 0 0 4", "0 4, 1, 2 | 0 4, 3");
        shows("begin 4; join 0 2 0 2 0 1", "2 4, 1, 3 | 2 4, 0");
        shows("begin 4; join 0 2 0 2 0 2", "2 4, 0, 3 | 2 4, 1");
        shows("begin 4; join 0 2 0 2 0 4", "2 4, 0, 1 | 2 4, 3");
        shows("begin 4; join 0 3 0 3 0 4", "3 4, 0, 1 | 3 4, 2");
        shows("begin 4; join 0 3 0 3 0 0", "3 4, 0, 1, 2 | 3 4");
        shows("begin 4; join 0 3 0 3 0 7", "3 4 | 3 4, 0, 1, 2");
        shows("begin 8; join 0 0 0 0 0 64", "0 8, 1, 2, 3, 4, 5, 6 | 0 8, 7");
        shows("begin 8; join 0 7 0 7 0 127", "7 8 | 7 8, 0, 1, 2, 3, 4, 5, 6");
    }

    /** "a new FIELD, the last one" */
    private static void newFieldIsTheLast() {
        String two = "begin 3; join 0 0 0 0 0 2";
        shows(two, "0 3, 1 | 0 3, 2");
        shows(two + "; join 0 1 0 1 0 0", "1 4, 0 3 | 0 3, 2 | 1 4");
        shows(two + "; join 0 1 0 1 0 1", "1 4 | 0 3, 2 | 1 4, 0 3");
        shows(two + "; join 1 1 0 1 0 0", "0 3, 1 | 2 4, 0 3 | 2 4");
        shows(two + "; join 0 0 0 0 1 1; join 1 1 0 1 0 1", "0 3 4 | 2 5 | 3 0 4, 1 | 2 5, 0 3");
    }

    /** "THE ORDER of moves": the moves told are those that join() does, no more, no less, in that order. */
    private static void theOrder() {
        String[] positions = {"begin 1", "begin 2", "begin 3", CHAIN, TAIL, "begin 3; join 0 0 0 0 0 2",
            "begin 3; join 0 0 0 1 0 0", "begin 4; join 0 2 0 2 0 5; join 1 0 0 0 1 2",
            "begin 2; move 0; move 0; move 0", "begin 1; move 0; move 0"};
        for (String position : positions) {
            DUE.same(position + ": moves told", told(position), joined(position));
        }
    }

    private static String told(String position) {
        List<String> all = new ArrayList<>();
        long many = Run.answer(position + "; moves");
        for (int k = 0; k < many; k++) {
            Run run = new Run();
            run.ask(position);
            StringBuilder move = new StringBuilder();
            for (int what = 0; what <= 5; what++) {
                move.append(' ').append(run.ask("tell " + k + " " + what));
            }
            all.add(move.toString());
        }
        return String.join(",", all);
    }

    /** Tries every move told by small numbers, those next to the ends too. */
    private static String joined(String position) {
        List<String> all = new ArrayList<>();
        Run asked = new Run();
        asked.ask(position);
        int corners = 0;
        long fields = asked.ask("count 1");
        for (int f = -1; f <= fields; f++) {
            long walls = asked.ask("walls " + f);
            for (int w = 0; w < walls; w++) {
                corners = Math.max(corners, (int) asked.ask("corners " + f + " " + w));
            }
        }
        for (int f = -1; f <= fields; f++) {
            int walls = (int) asked.ask("walls " + f);
            int[] tops = {walls, corners, walls, corners, 1 << Math.max(0, walls)};
            joinAll(position, " " + f, tops, 0, all);
        }
        return String.join(",", all);
    }

    private static Run tried = null;
    private static String triedAt = "";

    private static void joinAll(String position, String begun, int[] tops, int part, List<String> all) {
        for (int number = -1; number <= tops[part]; number++) {
            String move = begun + " " + number;
            if (part < tops.length - 1) {
                joinAll(position, move, tops, part + 1, all);
            } else if (canJoin(position, move)) {
                all.add(move);
            }
        }
    }

    private static boolean canJoin(String position, String move) {
        if (tried == null || !triedAt.equals(position) || tried.callsLeft() < 2) {
            tried = new Run();
            triedAt = position;
            tried.ask(position);
        }
        boolean done = tried.ask("join" + move) != NONE;
        if (done) {
            tried.ask("undo");
        }
        return done;
    }

    /** "The game is over if no move can be done. Of a position that is over NIM is 0" */
    private static void over() {
        String eightSurvivors = "begin 8; ";
        for (int spot = 0; spot < 8; spot++) {
            eightSurvivors += "join 0 " + spot + " 0 " + spot + " 0 0; join " + (2 * spot + 1) + " 0 0 0 1 0; ";
        }
        due(eightSurvivors + "count 3", 8);
        String[] ends = {"begin 1; move 0; move 0; ", "begin 1; move 0; move 1; ", eightSurvivors,
            "begin 8; " + times(23, "move 0"), "begin 3; " + times(8, "move 0")};
        for (String end : ends) {
            due(end + "moves", 0);
            due(end + "nim", 0);
            due(end + "best", NONE);
            due(end + "move 0", NONE);
            due(end + "tell 0 0", NONE);
        }
        due("begin 1; move 0; moves", 2);
        due("begin 1; move 0; nim", 1);
    }

    /** "the least number, from 0 on, that NIM of no position is that one move makes of it" */
    private static void leastNumber() {
        reaches("begin 1; move 0; move 0", "", 0);
        reaches("begin 1", "1", 0);
        reaches("begin 2", "2", 0);
        reaches("begin 2; move 2; move 2", "12", 0);
        reaches("begin 3; move 1; move 5; move 1", "13", 0);
        reaches("begin 1; move 0", "0", 1);
        reaches("begin 2; move 4; move 2", "02", 1);
        reaches("begin 3; move 5; move 8; move 5; move 5", "023", 1);
        reaches("begin 2; move 2; move 2; move 6", "01", 2);
        reaches("begin 2; move 2", "013", 2);
        reaches("begin 2; move 2; move 4", "012", 3);
        reaches("begin 3; move 10; move 2; move 9; move 1", "0123", 4);
    }

    private static void reaches(String position, String worths, int worth) {
        due(position + "; nim", worth);
        boolean[] reached = new boolean[10];
        long many = Run.answer(position + "; moves");
        for (int k = 0; k < many; k++) {
            reached[(int) Run.answer(position + "; move " + k + "; nim")] = true;
        }
        StringBuilder all = new StringBuilder();
        for (int number = 0; number < reached.length; number++) {
            all.append(reached[number] ? "" + number : "");
        }
        DUE.same(position + ": reached", all.toString(), worths);
    }

    /** "It is told where all LIVES together are 9 at most." */
    private static void nineLivesAtMost() {
        due("begin 3; nim", 1);
        for (int n = 4; n <= 8; n++) {
            String ten = "begin " + n + "; " + times(3 * n - 10, "move 0");
            due(ten + "count 3", 10);
            due(ten + "nim", NONE);
            due(ten + "best", NONE);
            due(ten + "move 0; count 3", 9);
            DUE.is(ten + "move 0; nim", Run.answer(ten + "move 0; nim") >= 0, true);
            due(ten + "move 0; nim; undo; nim", NONE);
            due("begin " + n + "; nim", NONE);
        }
    }

    /** "NONE = -1" */
    private static void constants() {
        DUE.is("NONE", SproutTable.NONE, NONE);
    }
}
