/** Promise 5. */
final class MapTest {
    public static void main(String[] args) {
        Check check = new Check();
        refusesOutside(check);
        readsEveryValueUnsigned(check);
        keepsTheLastBuild(check);
        changesNothing(check);
        check.end();
    }

    private static void refusesOutside(Check check) {
        HistEqual fresh = new HistEqual();
        HistEqual built = new HistEqual();
        built.add(0);
        built.build();
        for (int gray : Check.OUTSIDE) {
            check.due("fresh: map(" + gray + ")", fresh.map(gray), -1);
            check.due("built: map(" + gray + ")", built.map(gray), -1);
        }
    }

    private static void readsEveryValueUnsigned(Check check) {
        for (int value = 0; value <= 255; value++) {
            HistEqual x = new HistEqual();
            for (int i = 0; i < 255; i++) {
                x.add(i < value ? 3 : 7);
            }
            x.build();
            check.mapDue("value " + value, x, 0, 0, 0, value, value, value, value, 255);
        }
    }

    private static void keepsTheLastBuild(Check check) {
        HistEqual x = new HistEqual();
        x.build();
        x.add(1);
        check.mapDue("an idle build only", x, 0, 0, 0, 0, 0, 0, 0, 0);
        x.build();
        check.mapDue("built", x, 0, 255, 255, 255, 255, 255, 255, 255);
        x.add(0);
        x.add(7);
        check.mapDue("added after the build", x, 0, 255, 255, 255, 255, 255, 255, 255);
        x.build();
        check.mapDue("built again", x, 85, 170, 170, 170, 170, 170, 170, 255);
    }

    private static void changesNothing(Check check) {
        HistEqual x = new HistEqual();
        x.add(2);
        x.add(6);
        x.build();
        x.add(0);
        for (int round = 0; round < 3; round++) {
            for (int gray : Check.OUTSIDE) {
                x.map(gray);
            }
            check.mapDue("round " + round, x, 0, 0, 127, 127, 127, 127, 255, 255);
        }
        check.due("after map: total()", x.total(), 3);
        check.due("after map: build()", x.build(), 3);
        check.mapDue("after map and build", x, 85, 85, 170, 170, 170, 170, 255, 255);
        check.due("after map: add(0)", x.add(0), 2);
        check.due("after map: add(1)", x.add(1), 1);
    }
}
