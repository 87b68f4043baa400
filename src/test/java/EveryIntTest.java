/** Promises 2 and 5: add and map refuse every int outside 0..7, and nothing changes by it. */
final class EveryIntTest {
    public static void main(String[] args) {
        Check check = new Check();
        addRefuses(check);
        mapRefuses(check);
        check.end();
    }

    private static void addRefuses(Check check) {
        HistEqual x = Used.make();
        int all = addAll(x, Integer.MIN_VALUE, -1) & addAll(x, 8, Integer.MAX_VALUE);
        check.due("add of every int outside, the answers joined by &", all, -1);
        Used.unchanged(check, "every add refused", x);
    }

    private static void mapRefuses(Check check) {
        HistEqual x = Used.make();
        int all = mapAll(x, Integer.MIN_VALUE, -1) & mapAll(x, 8, Integer.MAX_VALUE);
        check.due("map of every int outside, the answers joined by &", all, -1);
        Used.unchanged(check, "every map refused", x);
    }

    // Only -1 has every bit set, so the joined answer is -1 only if each one is.
    private static int addAll(HistEqual x, int first, int last) {
        int all = x.add(last);
        for (int gray = first; gray < last; gray++) {
            all &= x.add(gray);
        }
        return all;
    }

    private static int mapAll(HistEqual x, int first, int last) {
        int all = x.map(last);
        for (int gray = first; gray < last; gray++) {
            all &= x.map(gray);
        }
        return all;
    }
}
