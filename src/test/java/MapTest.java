/** Promise 5. */
final class MapTest {
    public static void main(String[] args) {
        Check check = new Check();
        refusesOutside(check);
        zeroBeforeAnyBuild(check);
        idleBuildsDoNotMatter(check);
        readsEveryValueUnsigned(check);
        keepsTheLastBuild(check);
        changesNothing(check);
        check.end();
    }

    private static void refusesOutside(Check check) {
        HistEqual fresh = new HistEqual();
        HistEqual built = new HistEqual();
        built.add(0);
        built.build();
        for (int gray : Check.OUTSIDE) {
            check.due("fresh: map(" + gray + ")", fresh.map(gray), -1);
            check.due("built: map(" + gray + ")", built.map(gray), -1);
        }
    }

    private static void zeroBeforeAnyBuild(Check check) {
        HistEqual x = new HistEqual();
        check.mapDue("nothing called", x, 0, 0, 0, 0, 0, 0, 0, 0);
        for (int i = 0; i < 1000; i++) {
            x.add(i % 10 - 1);
            check.mapDue("not built", x, 0, 0, 0, 0, 0, 0, 0, 0);
        }
    }

    private static void idleBuildsDoNotMatter(Check check) {
        HistEqual x = new HistEqual();
        for (int gray : Check.OUTSIDE) {
            x.add(gray);
            x.build();
            check.mapDue("an idle build", x, 0, 0, 0, 0, 0, 0, 0, 0);
        }
        x.add(4);
        x.build();
        check.mapDue("built after idle builds", x, 0, 0, 0, 0, 255, 255, 255, 255);
    }

    private static void readsEveryValueUnsigned(Check check) {
        for (int value = 0; value <= 255; value++) {
            HistEqual x = new HistEqual();
            for (int i = 0; i < 255; i++) {
                x.add(i < value ? 3 : 7);
            }
            x.build();
            check.mapDue("value " + value, x, 0, 0, 0, value, value, value, value, 255);
        }
    }

    private static void keepsTheLastBuild(Check check) {
        HistEqual x = new HistEqual();
        x.build();
        x.add(1);
        check.mapDue("an idle build only", x, 0, 0, 0, 0, 0, 0, 0, 0);
        x.build();
        check.mapDue("built", x, 0, 255, 255, 255, 255, 255, 255, 255);
        x.add(0);
        x.add(7);
        check.mapDue("added after the build", x, 0, 255, 255, 255, 255, 255, 255, 255);
        x.build();
        check.mapDue("built again", x, 85, 170, 170, 170, 170, 170, 170, 255);
    }

    private static void changesNothing(Check check) {
        for (int gray : Check.OUTSIDE) {
            HistEqual x = Used.make();
            x.map(gray);
            Used.unchanged(check, "after map(" + gray + ")", x);
        }
        for (int g = 0; g < 8; g++) {
            HistEqual x = Used.make();
            x.map(g);
            Used.unchanged(check, "after map(" + g + ")", x);
        }
    }
}
