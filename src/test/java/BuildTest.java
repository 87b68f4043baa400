/** Promise 4. Sums past Integer.MAX_VALUE are in WrapTest. */
final class BuildTest {
    public static void main(String[] args) {
        Check check = new Check();
        documentExamples(check);
        nothingToBuild(check);
        roundsTowardZero(check);
        multipliesInLong(check);
        answersLevelsInUse(check);
        keepsCountsAndTotal(check);
        buildsTheSameAgain(check);
        replacesAllValues(check);
        check.end();
    }

    private static HistEqual withCounts(int... counts) {
        HistEqual x = new HistEqual();
        for (int g = 0; g < counts.length; g++) {
            for (int i = 0; i < counts[g]; i++) {
                x.add(g);
            }
        }
        return x;
    }

    private static void documentExamples(Check check) {
        HistEqual x = withCounts(1);
        check.due("add(0): build()", x.build(), 1);
        check.mapDue("add(0)", x, 255, 255, 255, 255, 255, 255, 255, 255);
        x = withCounts(0, 0, 1, 0, 0, 0, 1);
        check.due("add(2), add(6): build()", x.build(), 2);
        check.mapDue("add(2), add(6)", x, 0, 0, 127, 127, 127, 127, 255, 255);
        x = withCounts(0, 0, 0, 0, 0, 0, 0, 4);
        check.due("four of level 7: build()", x.build(), 1);
        check.mapDue("four of level 7", x, 0, 0, 0, 0, 0, 0, 0, 255);
    }

    private static void nothingToBuild(Check check) {
        HistEqual x = new HistEqual();
        x.add(-1);
        x.add(8);
        check.due("total 0: build()", x.build(), 0);
        check.mapDue("total 0", x, 0, 0, 0, 0, 0, 0, 0, 0);
        check.due("total 0: total()", x.total(), 0);
        check.due("after an idle build: add(4)", x.add(4), 1);
    }

    private static void roundsTowardZero(Check check) {
        HistEqual x = withCounts(1, 1, 1, 1, 1, 1, 1);
        check.due("seven levels: build()", x.build(), 7);
        check.mapDue("seven levels", x, 36, 72, 109, 145, 182, 218, 255, 255);
        x = withCounts(1, 254, 0, 1);
        check.due("256 samples: build()", x.build(), 3);
        check.mapDue("256 samples", x, 0, 254, 254, 255, 255, 255, 255, 255);
        x = withCounts(128, 1, 126);
        check.due("255 samples: build()", x.build(), 3);
        check.mapDue("255 samples", x, 128, 129, 255, 255, 255, 255, 255, 255);
    }

    private static void multipliesInLong(Check check) {
        HistEqual x = withCounts(9000000, 0, 0, 18000000, 0, 0, 0, 9000000);
        check.due("36 million: build()", x.build(), 3);
        check.mapDue("36 million", x, 63, 63, 63, 191, 191, 191, 191, 255);
        // The first count whose product with 255 is no int any more, and the one below it.
        int edge = Integer.MAX_VALUE / 255 + 1;
        x = withCounts(edge - 1);
        check.due("product below the edge: build()", x.build(), 1);
        check.mapDue("product below the edge", x, 255, 255, 255, 255, 255, 255, 255, 255);
        x.add(7);
        x.build();
        check.mapDue("product at the edge", x, 254, 254, 254, 254, 254, 254, 254, 255);
    }

    private static void answersLevelsInUse(Check check) {
        for (int set = 1; set < 256; set++) {
            HistEqual x = new HistEqual();
            for (int g = 0; g < 8; g++) {
                for (int i = 0; i <= g && (set >> g & 1) == 1; i++) {
                    x.add(g);
                }
            }
            check.due("levels of set " + set + ": build()", x.build(), Integer.bitCount(set));
        }
    }

    private static void keepsCountsAndTotal(Check check) {
        HistEqual x = Used.make();
        check.due("used: build()", x.build(), 8);
        Used.builtAndUnchanged(check, "after build", x);
        x = withCounts(3, 0, 1, 0, 2);
        check.due("three levels in use: build()", x.build(), 3);
        check.due("after build: total()", x.total(), 6);
        check.due("after build: add(0)", x.add(0), 4);
        check.due("after build: add(1)", x.add(1), 1);
        check.due("after build: add(2)", x.add(2), 2);
        check.due("after build: add(4)", x.add(4), 3);
        check.due("after build: add(7)", x.add(7), 1);
    }

    private static void buildsTheSameAgain(Check check) {
        HistEqual x = Used.make();
        for (int i = 0; i < 3; i++) {
            check.due("again: build()", x.build(), 8);
            check.mapDue("built again", x, 76, 86, 102, 122, 147, 178, 214, 255);
        }
        for (int gray : Check.OUTSIDE) {
            x.add(gray);
            check.due("after refused add(" + gray + "): build()", x.build(), 8);
            check.mapDue("after refused add(" + gray + ")", x, 76, 86, 102, 122, 147, 178, 214, 255);
        }
        Used.builtAndUnchanged(check, "after many builds", x);
    }

    private static void replacesAllValues(Check check) {
        HistEqual x = withCounts(1);
        x.build();
        x.add(7);
        check.mapDue("not built yet", x, 255, 255, 255, 255, 255, 255, 255, 255);
        check.due("second build()", x.build(), 2);
        check.mapDue("second build", x, 127, 127, 127, 127, 127, 127, 127, 255);
        x.add(3);
        x.add(3);
        check.due("third build()", x.build(), 3);
        check.mapDue("third build", x, 63, 63, 63, 191, 191, 191, 191, 255);
    }
}
