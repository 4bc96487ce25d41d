/**
 * A run of calls on a new object, told as text: "begin 3; join 0 0 0 0 0 2; walls 0". A boolean
 * answer counts 1 or 0. No run is longer than the document lets an object be used.
 */
final class Run {
    static final int MOST_CALLS = 512;
    private final SproutTable table = new SproutTable();
    private int calls = 0;

    /** The answer of the last call. */
    static long answer(String calls) {
        return new Run().ask(calls);
    }

    /** The fields behind the calls, as "0 3, 1 | 0 3, 2": a comma between walls, a bar between fields. */
    static String fields(String calls) {
        Run run = new Run();
        run.ask(calls);
        return run.fieldsNow();
    }

    /** The lives of all spots behind the calls, as "1331". */
    static String lives(String calls) {
        Run run = new Run();
        run.ask(calls);
        return run.livesNow();
    }

    /** The game behind the calls, with its moves. */
    static String game(String calls) {
        Run run = new Run();
        run.ask(calls);
        return run.fieldsNow() + " ; " + run.livesNow() + " ;" + run.countsNow() + " ;" + run.madeNow();
    }

    long ask(String text) {
        long last = 0;
        for (String call : text.split(";")) {
            if (!call.isBlank()) {
                last = once(call.trim().split(" +"));
            }
        }
        return last;
    }

    int callsLeft() {
        return MOST_CALLS - calls;
    }

    private long once(String[] words) {
        calls++;
        if (calls > MOST_CALLS) {
            throw new IllegalStateException("the test uses an object for more than " + MOST_CALLS + " calls");
        }
        int[] a = new int[words.length - 1];
        for (int k = 0; k < a.length; k++) {
            a[k] = Integer.parseInt(words[k + 1]);
        }
        return switch (words[0]) {
            case "begin" -> number(table.begin(a[0]));
            case "count" -> table.count(a[0]);
            case "walls" -> table.walls(a[0]);
            case "corners" -> table.corners(a[0], a[1]);
            case "corner" -> table.corner(a[0], a[1], a[2]);
            case "lives" -> table.lives(a[0]);
            case "join" -> table.join(a[0], a[1], a[2], a[3], a[4], a[5]);
            case "moves" -> table.moves();
            case "move" -> table.move(a[0]);
            case "tell" -> table.tell(a[0], a[1]);
            case "undo" -> table.undo();
            case "made" -> table.made(a[0], a[1]);
            case "nim" -> table.nim();
            case "best" -> table.best();
            case "image" -> number(table.image(a[0]));
            case "again" -> number(table.again(a[0]));
            default -> throw new IllegalArgumentException("no such call: " + words[0]);
        };
    }

    private static long number(boolean answer) {
        return answer ? 1 : 0;
    }

    private String fieldsNow() {
        StringBuilder text = new StringBuilder();
        long fields = ask("count 1");
        for (int f = 0; f < fields; f++) {
            text.append(f == 0 ? "" : " | ");
            long walls = ask("walls " + f);
            for (int w = 0; w < walls; w++) {
                text.append(w == 0 ? "" : ", ");
                long corners = ask("corners " + f + " " + w);
                for (int k = 0; k < corners; k++) {
                    text.append(k == 0 ? "" : " ").append(ask("corner " + f + " " + w + " " + k));
                }
            }
        }
        return text.toString();
    }

    private String livesNow() {
        StringBuilder text = new StringBuilder();
        long spots = ask("count 0");
        for (int spot = 0; spot < spots; spot++) {
            text.append(ask("lives " + spot));
        }
        return text.toString();
    }

    private String countsNow() {
        StringBuilder text = new StringBuilder();
        for (int what = 0; what <= 5; what++) {
            text.append(' ').append(ask("count " + what));
        }
        return text.toString();
    }

    private String madeNow() {
        StringBuilder text = new StringBuilder();
        long made = ask("count 2");
        for (int t = 0; t < made; t++) {
            text.append(t == 0 ? "" : ",");
            for (int what = 0; what <= 5; what++) {
                text.append(' ').append(ask("made " + t + " " + what));
            }
        }
        return text.toString();
    }
}
