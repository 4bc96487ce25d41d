import java.util.ArrayList;
import java.util.HashMap;
import java.util.List;
import java.util.Map;

/**
 * The document, written down a second time, plainly and slowly: lists of lists, every move told one
 * by one, taking back by playing again, pieces found by colouring. Nothing is shared with the class.
 */
final class Model {
    static final int NONE = -1;
    List<List<List<Integer>>> fields;
    List<Integer> lives;
    List<int[]> made;
    int first;
    private final int[] imageFirst = new int[4];
    private final List<List<int[]>> imageMade = new ArrayList<>();

    Model() {
        for (int k = 0; k < 4; k++) {
            imageMade.add(null);
        }
        begin(2);
    }

    boolean begin(int n) {
        if (n < 1 || n > 8) {
            return false;
        }
        first = n;
        made = new ArrayList<>();
        lives = new ArrayList<>();
        fields = new ArrayList<>();
        fields.add(new ArrayList<>());
        for (int k = 0; k < n; k++) {
            lives.add(3);
            fields.get(0).add(new ArrayList<>(List.of(k)));
        }
        return true;
    }

    int count(int what) {
        if (what == 0) {
            return lives.size();
        }
        if (what == 1) {
            return fields.size();
        }
        if (what == 2) {
            return made.size();
        }
        if (what == 3) {
            return lives.stream().mapToInt(x -> x).sum();
        }
        if (what == 4) {
            return fields.stream().mapToInt(List::size).sum();
        }
        return what == 5 ? pieces() : NONE;
    }

    private int pieces() {
        int[] colour = new int[lives.size()];
        for (int k = 0; k < colour.length; k++) {
            colour[k] = k;
        }
        for (int round = 0; round < colour.length; round++) {
            for (List<List<Integer>> field : fields) {
                for (List<Integer> wall : field) {
                    for (int spot : wall) {
                        for (int other : wall) {
                            colour[spot] = Math.min(colour[spot], colour[other]);
                        }
                    }
                }
            }
        }
        int many = 0;
        for (int k = 0; k < colour.length; k++) {
            many += colour[k] == k ? 1 : 0;
        }
        return many;
    }

    int walls(int f) {
        return f < 0 || f >= fields.size() ? NONE : fields.get(f).size();
    }

    int corners(int f, int w) {
        return w < 0 || w >= walls(f) ? NONE : fields.get(f).get(w).size();
    }

    int corner(int f, int w, int k) {
        return k < 0 || k >= corners(f, w) ? NONE : fields.get(f).get(w).get(k);
    }

    int lives(int spot) {
        return spot < 0 || spot >= lives.size() ? NONE : lives.get(spot);
    }

    int join(int f, int u, int i, int v, int j, int side) {
        for (int[] m : told()) {
            if (m[0] == f && m[1] == u && m[2] == i && m[3] == v && m[4] == j && m[5] == side) {
                return play(m);
            }
        }
        return NONE;
    }

    /** All moves in THE ORDER. */
    List<int[]> told() {
        List<int[]> all = new ArrayList<>();
        for (int f = 0; f < fields.size(); f++) {
            for (int u = 0; u < walls(f); u++) {
                for (int i = 0; i < corners(f, u); i++) {
                    for (int v = u; v < walls(f); v++) {
                        for (int j = u == v ? i : 0; j < corners(f, v); j++) {
                            int a = corner(f, u, i);
                            int b = corner(f, v, j);
                            boolean can = a == b ? lives(a) > 1 : lives(a) > 0 && lives(b) > 0;
                            int sides = u == v ? (int) Math.pow(2, walls(f) - 1) : 1;
                            for (int side = 0; can && side < sides; side++) {
                                all.add(new int[] {f, u, i, v, j, side});
                            }
                        }
                    }
                }
            }
        }
        return all;
    }

    private List<Integer> round(List<Integer> wall, int k) {
        List<Integer> round = new ArrayList<>(wall.subList(k, wall.size()));
        if (lives(wall.get(k)) != 3) {
            round.addAll(wall.subList(0, k));
            round.add(wall.get(k));
        }
        return round;
    }

    private int play(int[] m) {
        List<List<Integer>> field = fields.get(m[0]);
        List<Integer> wall = field.get(m[1]);
        int a = wall.get(m[2]);
        int b = field.get(m[3]).get(m[4]);
        int c = lives.size();
        List<Integer> fromI = round(wall, m[2]);
        List<Integer> fromJ = round(field.get(m[3]), m[4]);
        if (m[1] != m[3]) {
            fromI.add(c);
            fromI.addAll(fromJ);
            fromI.add(c);
            field.set(m[1], fromI);
            field.remove(m[3]);
        } else {
            List<Integer> one = new ArrayList<>(wall.subList(m[2], m[4] + 1));
            List<Integer> two = new ArrayList<>();
            if (m[2] == m[4]) {
                two.addAll(fromI);
            } else {
                two.addAll(wall.subList(m[4], wall.size()));
                two.addAll(wall.subList(0, m[2] + 1));
            }
            one.add(c);
            two.add(c);
            divide(m, one, two);
        }
        lives.set(a, lives.get(a) - 1);
        lives.set(b, lives.get(b) - 1);
        lives.add(1);
        made.add(m.clone());
        return c;
    }

    private void divide(int[] m, List<Integer> one, List<Integer> two) {
        List<List<Integer>> others = new ArrayList<>(fields.get(m[0]));
        others.remove(m[1]);
        List<List<Integer>> stays = new ArrayList<>();
        List<List<Integer>> goes = new ArrayList<>();
        stays.add(one);
        goes.add(two);
        for (int w = 0; w < others.size(); w++) {
            boolean second = Integer.toBinaryString(m[5] + (1 << 20)).charAt(20 - w) == '1';
            (second ? goes : stays).add(others.get(w));
        }
        fields.set(m[0], stays);
        fields.add(goes);
    }

    int moves() {
        return told().size();
    }

    int move(int k) {
        List<int[]> all = told();
        return k < 0 || k >= all.size() ? NONE : play(all.get(k));
    }

    int tell(int k, int what) {
        List<int[]> all = told();
        return k < 0 || k >= all.size() || what < 0 || what > 5 ? NONE : all.get(k)[what];
    }

    int undo() {
        if (made.isEmpty()) {
            return NONE;
        }
        playAgain(first, made.subList(0, made.size() - 1));
        return made.size();
    }

    private void playAgain(int n, List<int[]> moves) {
        List<int[]> copy = new ArrayList<>(moves);
        begin(n);
        for (int[] m : copy) {
            play(m);
        }
    }

    int made(int t, int what) {
        return t < 0 || t >= made.size() || what < 0 || what > 5 ? NONE : made.get(t)[what];
    }

    boolean image(int k) {
        if (k < 0 || k > 3) {
            return false;
        }
        imageFirst[k] = first;
        imageMade.set(k, new ArrayList<>(made));
        return true;
    }

    boolean again(int k) {
        if (k < 0 || k > 3 || imageMade.get(k) == null) {
            return false;
        }
        playAgain(imageFirst[k], imageMade.get(k));
        return true;
    }

    /** NIM by going through all that can come: only for few lives, there is no short cut in it. */
    int nim(Map<String, Integer> known) {
        String key = key();
        Integer old = known.get(key);
        if (old != null) {
            return old;
        }
        boolean[] reached = new boolean[64];
        int many = moves();
        for (int k = 0; k < many; k++) {
            move(k);
            reached[nim(known)] = true;
            undo();
        }
        int least = 0;
        while (reached[least]) {
            least++;
        }
        known.put(key, least);
        return least;
    }

    /** Lives at every corner and which corners are one spot, in the order they stand in. */
    private String key() {
        Map<Integer, Integer> names = new HashMap<>();
        StringBuilder key = new StringBuilder();
        for (List<List<Integer>> field : fields) {
            for (List<Integer> wall : field) {
                for (int spot : wall) {
                    if (lives(spot) == 0) {
                        key.append('.');
                    } else {
                        names.putIfAbsent(spot, names.size());
                        key.append((char) ('a' + names.get(spot))).append(lives(spot));
                    }
                }
                key.append(' ');
            }
            key.append('/');
        }
        return key.toString();
    }
}
