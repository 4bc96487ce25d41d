import java.util.ArrayList;
import java.util.List;

/**
 * "A refused call changes nothing.": in many positions, behind every refused call, and behind all of
 * them together, what every other call answers is as it was before. So it is behind calls that only ask.
 */
public final class RefusedTest {
    private static final int LEAST = Integer.MIN_VALUE;
    private static final int GREATEST = Integer.MAX_VALUE;
    private static final int MOST_MOVES_LOOKED_AT = 12;
    private static final int MOST_REFUSED_TOGETHER = 120;
    private static final Due DUE = new Due();
    private static final String[] POSITIONS = {
        "",
        "begin 1; image 2",
        "begin 8; image 0; image 1; image 2; image 3",
        "begin 1; move 0; image 0; move 0",
        "move 2; join 0 0 0 0 0 0; image 3; undo",
        "begin 3; join 0 0 0 0 0 2; image 0; join 0 0 0 1 0 0",
        "begin 4; image 1; join 0 2 0 2 0 5; join 1 0 0 0 1 2",
        "begin 3; move 4; image 1; move 4; move 4; undo; undo; undo",
        "begin 5; move 7; move 20; move 9; image 3; begin 2; move 1; image 0; again 3",
        "begin 8" + "; move 0".repeat(23) + "; image 1",
    };

    public static void main(String[] args) {
        for (String position : POSITIONS) {
            refused(position);
            onlyAsked(position);
        }
        DUE.end();
    }

    private static void refused(String position) {
        List<String> asks = asks(position);
        String before = answers(position, asks);
        List<String> calls = refusedCalls(position);
        StringBuilder together = new StringBuilder(position);
        for (int k = 0; k < calls.size(); k++) {
            String call = calls.get(k);
            DUE.is(position + "; " + call, Run.answer(position + "; " + call), refusal(call));
            DUE.same(position + "; " + call + ": all", answers(position + "; " + call, asks), before);
            together.append("; ").append(call);
            if (k % MOST_REFUSED_TOGETHER == MOST_REFUSED_TOGETHER - 1 || k == calls.size() - 1) {
                DUE.same(together + ": all", answers(together.toString(), asks), before);
                together = new StringBuilder(position);
            }
        }
    }

    private static void onlyAsked(String position) {
        List<String> asks = asks(position);
        String before = answers(position, asks);
        for (String call : new String[] {"count 3", "walls 0", "corners 0 0", "corner 0 0 0", "lives 0", "moves",
            "tell 0 0", "made 0 0", "nim", "best", "nim; best; moves; tell 0 5; best; nim"}) {
            DUE.same(position + "; " + call + ": all", answers(position + "; " + call, asks), before);
        }
    }

    private static int refusal(String call) {
        boolean tellsFalse = call.startsWith("begin") || call.startsWith("image") || call.startsWith("again");
        return tellsFalse ? 0 : SproutTable.NONE;
    }

    private static int ask(String calls) {
        return (int) Run.answer(calls);
    }

    /** All calls that only ask, with all numbers that there are and those next to them. */
    private static List<String> asks(String position) {
        List<String> asks = new ArrayList<>(List.of("moves", "nim", "best"));
        upTo(asks, "count", 6);
        upTo(asks, "lives", ask(position + "; count 0"));
        int fields = ask(position + "; count 1");
        upTo(asks, "walls", fields);
        for (int f = 0; f < fields; f++) {
            int walls = ask(position + "; walls " + f);
            upTo(asks, "corners " + f, walls);
            for (int w = 0; w < walls; w++) {
                upTo(asks, "corner " + f + " " + w, ask(position + "; corners " + f + " " + w));
            }
        }
        int moves = ask(position + "; moves");
        for (int k = -1; k <= moves; k += 1 + moves / MOST_MOVES_LOOKED_AT) {
            upTo(asks, "tell " + k, 6);
        }
        upTo(asks, "tell " + (moves - 1), 6);
        int made = ask(position + "; count 2");
        for (int t = -1; t <= made; t++) {
            upTo(asks, "made " + t, 6);
        }
        return asks;
    }

    private static void upTo(List<String> asks, String begun, int many) {
        for (int number = -1; number <= many; number++) {
            asks.add(begun + " " + number);
        }
    }

    /** What the asks answer behind the calls, and the games that calls make of this one that change it. */
    private static String answers(String calls, List<String> asks) {
        StringBuilder all = new StringBuilder();
        Run run = null;
        for (String one : asks) {
            if (run == null || run.callsLeft() == 0) {
                run = new Run();
                run.ask(calls);
            }
            all.append(' ').append(run.ask(one));
        }
        for (String change : new String[] {"undo", "undo; undo", "begin 1", "begin 8", "move 0", "move 3",
            "join 0 0 0 0 1 0", "again 0", "again 1", "again 2", "again 3", "image 0; begin 3; again 0",
            "image 3; again 0; again 3"}) {
            all.append("\n").append(change).append(": ").append(ask(calls + "; " + change));
            all.append(' ').append(Run.game(calls + "; " + change));
        }
        return all.toString();
    }

    private static List<String> refusedCalls(String position) {
        List<String> calls = new ArrayList<>();
        beyond(calls, "begin", 1, 8);
        beyond(calls, "count", 0, 5);
        beyond(calls, "lives", 0, ask(position + "; count 0") - 1);
        beyond(calls, "walls", 0, ask(position + "; count 1") - 1);
        beyond(calls, "corners", 0, ask(position + "; count 1") - 1, "0");
        beyond(calls, "corners 0", 0, ask(position + "; walls 0") - 1);
        beyond(calls, "corner", 0, ask(position + "; count 1") - 1, "0 0");
        beyond(calls, "corner 0", 0, ask(position + "; walls 0") - 1, "0");
        beyond(calls, "corner 0 0", 0, ask(position + "; corners 0 0") - 1);
        int moves = ask(position + "; moves");
        beyond(calls, "move", 0, moves - 1);
        beyond(calls, "tell", 0, moves - 1, "0");
        beyond(calls, "tell 0", 0, 5);
        int made = ask(position + "; count 2");
        beyond(calls, "made", 0, made - 1, "0");
        beyond(calls, "made 0", 0, 5);
        beyond(calls, "image", 0, 3);
        beyond(calls, "again", 0, 3);
        for (String maybe : new String[] {"undo", "nim", "best", "again 0", "again 1", "again 2", "again 3"}) {
            if (ask(position + "; " + maybe) == refusal(maybe)) {
                calls.add(maybe);
            }
        }
        refusedJoins(calls, position, moves);
        return calls;
    }

    private static void beyond(List<String> calls, String begun, int low, int high, String... rest) {
        for (int number : new int[] {low - 1, high + 1, LEAST, GREATEST}) {
            calls.add(begun + " " + number + (rest.length == 0 ? "" : " " + rest[0]));
        }
    }

    /** Moves with one part that is wrong, and those of the first field that lack a life. */
    private static void refusedJoins(List<String> calls, String position, int moves) {
        for (int k = 0; k < moves; k += 1 + moves / 2) {
            int field = ask(position + "; tell " + k + " 0");
            int beyondAll = 1 << ask(position + "; walls " + field);
            for (int part = 0; part <= 5; part++) {
                for (int number : new int[] {-1, Math.max(beyondAll, 100), LEAST, GREATEST}) {
                    calls.add(joinWith(position, k, part, number));
                }
            }
        }
        int walls = ask(position + "; walls 0");
        for (int u = 0; u < walls; u++) {
            for (int v = 0; v < walls; v++) {
                int corners = ask(position + "; corners 0 " + v);
                for (int j = 0; j < corners; j++) {
                    String call = "join 0 " + u + " 0 " + v + " " + j + " 0";
                    if (ask(position + "; " + call) == SproutTable.NONE) {
                        calls.add(call);
                    }
                }
            }
        }
    }

    private static String joinWith(String position, int k, int part, int number) {
        StringBuilder call = new StringBuilder("join");
        for (int what = 0; what <= 5; what++) {
            call.append(' ').append(what == part ? number : ask(position + "; tell " + k + " " + what));
        }
        return call.toString();
    }
}
