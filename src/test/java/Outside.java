import java.util.ArrayList;
import java.util.List;
import java.util.TreeSet;

/** Numbers that are not from low to high: next to both ends, the least, the greatest, and wrapped ones. */
final class Outside {
    private Outside() {
    }

    static List<Integer> of(int low, int high) {
        TreeSet<Integer> all = new TreeSet<>();
        for (int end : new int[] {low, high}) {
            for (int by : new int[] {0, 1, 2, 1 << 8, 1 << 16, 1 << 30, Integer.MAX_VALUE, Integer.MIN_VALUE}) {
                all.add(end + by);
                all.add(end - by);
                all.add(by);
                all.add(-by);
            }
            all.add(-end);
            all.add(~end);
        }
        List<Integer> outside = new ArrayList<>();
        for (int number : all) {
            if (number < low || number > high) {
                outside.add(number);
            }
        }
        return outside;
    }
}
