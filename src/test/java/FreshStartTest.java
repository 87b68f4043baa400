/** Promise 1. */
final class FreshStartTest {
    public static void main(String[] args) {
        Check check = new Check();
        answersZero(check);
        buildLeavesTheMap(check);
        countsStartAtZero(check);
        objectsShareNothing(check);
        check.end();
    }

    private static void answersZero(Check check) {
        check.due("fresh: total()", new HistEqual().total(), 0);
        check.due("fresh: build()", new HistEqual().build(), 0);
        check.mapDue("fresh", new HistEqual(), 0, 0, 0, 0, 0, 0, 0, 0);
    }

    private static void buildLeavesTheMap(Check check) {
        HistEqual x = new HistEqual();
        for (int i = 0; i < 3; i++) {
            check.due("fresh: build()", x.build(), 0);
            check.mapDue("fresh, after build", x, 0, 0, 0, 0, 0, 0, 0, 0);
            check.due("fresh, after build: total()", x.total(), 0);
        }
    }

    private static void countsStartAtZero(Check check) {
        HistEqual x = new HistEqual();
        for (int g = 0; g < 8; g++) {
            check.due("first add(" + g + ")", x.add(g), 1);
        }
    }

    private static void objectsShareNothing(Check check) {
        HistEqual used = new HistEqual();
        used.add(0);
        used.add(5);
        used.build();
        HistEqual fresh = new HistEqual();
        check.due("beside a used object: total()", fresh.total(), 0);
        check.mapDue("beside a used object", fresh, 0, 0, 0, 0, 0, 0, 0, 0);
        check.due("beside a used object: build()", fresh.build(), 0);
        check.due("beside a used object: add(5)", fresh.add(5), 1);
        check.due("used object: total()", used.total(), 2);
        check.mapDue("used object", used, 127, 127, 127, 127, 127, 255, 255, 255);
    }
}
