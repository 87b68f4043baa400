/** Promise 3. The edge at Integer.MAX_VALUE is in WrapTest. */
final class TotalTest {
    public static void main(String[] args) {
        Check check = new Check();
        countsAcceptedOnly(check);
        noMethodResets(check);
        changesNothing(check);
        check.end();
    }

    private static void countsAcceptedOnly(Check check) {
        HistEqual x = new HistEqual();
        for (int i = 1; i <= 70000; i++) {
            x.add(i % 8);
            x.add(Check.OUTSIDE[i % Check.OUTSIDE.length]);
            check.due("total()", x.total(), i);
        }
    }

    private static void noMethodResets(Check check) {
        HistEqual x = new HistEqual();
        x.add(0);
        x.add(7);
        x.add(7);
        for (int i = 0; i < 3; i++) {
            x.build();
            check.due("after build: total()", x.total(), 3);
            x.map(7);
            x.map(8);
            x.add(8);
            check.due("after map and a refused add: total()", x.total(), 3);
        }
        x.add(1);
        check.due("after one more: total()", x.total(), 4);
    }

    private static void changesNothing(Check check) {
        HistEqual x = Used.make();
        for (int i = 0; i < 100; i++) {
            check.due("again: total()", x.total(), 50);
        }
        Used.unchanged(check, "after total", x);
    }
}
