/** Promise 2. The wrap of a count is in WrapTest. */
final class AddTest {
    public static void main(String[] args) {
        Check check = new Check();
        documentExample(check);
        countsEachLevelApart(check);
        refusesOutsideWhenFresh(check);
        refusesOutsideWhenUsed(check);
        leavesTheMap(check);
        check.end();
    }

    private static void documentExample(Check check) {
        HistEqual x = new HistEqual();
        check.due("first add(3)", x.add(3), 1);
        check.due("add(5) in between", x.add(5), 1);
        check.due("second add(3)", x.add(3), 2);
        check.due("third add(3)", x.add(3), 3);
    }

    private static void countsEachLevelApart(Check check) {
        HistEqual x = new HistEqual();
        for (int round = 1; round <= 300; round++) {
            for (int g = 0; g < 8; g++) {
                check.due("round " + round + ": add(" + g + ")", x.add(g), round);
            }
        }
        for (int i = 301; i <= 70000; i++) {
            check.due("add(0)", x.add(0), i);
        }
        for (int g = 1; g < 8; g++) {
            check.due("after many add(0): add(" + g + ")", x.add(g), 301);
        }
    }

    private static void refusesOutsideWhenFresh(Check check) {
        HistEqual x = new HistEqual();
        for (int gray : Check.OUTSIDE) {
            check.due("fresh: add(" + gray + ")", x.add(gray), -1);
            check.due("fresh, after refused add(" + gray + "): total()", x.total(), 0);
            check.due("fresh, after refused add(" + gray + "): build()", x.build(), 0);
            check.mapDue("fresh, after refused add(" + gray + ")", x, 0, 0, 0, 0, 0, 0, 0, 0);
        }
        for (int g = 0; g < 8; g++) {
            check.due("after refused adds: add(" + g + ")", x.add(g), 1);
        }
    }

    private static void refusesOutsideWhenUsed(Check check) {
        for (int gray : Check.OUTSIDE) {
            HistEqual x = Used.make();
            check.due("used: add(" + gray + ")", x.add(gray), -1);
            Used.unchanged(check, "after refused add(" + gray + ")", x);
        }
    }

    private static void leavesTheMap(Check check) {
        HistEqual x = new HistEqual();
        for (int g = 0; g < 8; g++) {
            x.add(g);
            check.mapDue("before any build", x, 0, 0, 0, 0, 0, 0, 0, 0);
        }
        check.due("one of each: build()", x.build(), 8);
        for (int i = 0; i < 1000; i++) {
            x.add(i % 3);
            check.mapDue("adds after build", x, 31, 63, 95, 127, 159, 191, 223, 255);
        }
    }
}
