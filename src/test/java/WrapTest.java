/** Promises 2, 3 and 4 at and past Integer.MAX_VALUE samples, reached by real calls. */
final class WrapTest {
    public static void main(String[] args) {
        Check check = new Check();
        HistEqual x = new HistEqual();
        check.due("add(0), MAX_VALUE times: the last answer", addMany(x), Integer.MAX_VALUE);
        atTheEdge(check, x);
        sumPastTheEdge(check, x);
        wrappedCount(check, x);
        check.end();
    }

    private static int addMany(HistEqual x) {
        int last = 0;
        for (int i = 0; i < Integer.MAX_VALUE; i++) {
            last = x.add(0);
        }
        return last;
    }

    private static void atTheEdge(Check check, HistEqual x) {
        check.due("MAX_VALUE samples: total()", x.total(), Integer.MAX_VALUE);
        check.due("MAX_VALUE samples: build()", x.build(), 1);
        check.mapDue("MAX_VALUE samples", x, 255, 255, 255, 255, 255, 255, 255, 255);
        check.due("MAX_VALUE samples, after build: total()", x.total(), Integer.MAX_VALUE);
    }

    private static void sumPastTheEdge(Check check, HistEqual x) {
        check.due("add(4)", x.add(4), 1);
        check.due("2^31 samples: build()", x.build(), 2);
        check.mapDue("2^31 samples", x, 254, 254, 254, 254, 255, 255, 255, 255);
    }

    private static void wrappedCount(Check check, HistEqual x) {
        check.due("add(0) at MAX_VALUE", x.add(0), Integer.MIN_VALUE);
        check.mapDue("wrapped, not built", x, 254, 254, 254, 254, 255, 255, 255, 255);
        check.due("wrapped: build()", x.build(), 1);
        check.due("add(0) after the wrap", x.add(0), Integer.MIN_VALUE + 1);
        check.due("add(2) after the wrap", x.add(2), 1);
        check.due("wrapped, another level: build()", x.build(), 2);
        check.due("add(4) after the wrap", x.add(4), 2);
    }
}
