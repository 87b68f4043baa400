/** Promises 2 to 5 at and past Integer.MAX_VALUE samples, reached by real calls. */
final class WrapTest {
    private static final int MAX = Integer.MAX_VALUE;
    private static final int MIN = Integer.MIN_VALUE;

    public static void main(String[] args) {
        Check check = new Check();
        oneLevel(check);
        everyLevel(check);
        replacesTheMapAfterTheWrap(check);
        computesTheSameWayAfterTheWrap(check);
        check.end();
    }

    // No check inside: the compiler shortens this plain loop, and 2^31 calls stay cheap.
    private static int addMany(HistEqual x, int gray, int times) {
        int last = 0;
        for (int i = 0; i < times; i++) {
            last = x.add(gray);
        }
        return last;
    }

    private static void oneLevel(Check check) {
        HistEqual x = new HistEqual();
        totalIsExactUpToTheEdge(check, x);
        mapStaysZeroUnbuilt(check, x);
        refusesAtTheEdge(check, x);
        buildsAtTheEdge(check, x);
        sumsPastTheEdge(check, x);
        wrapsTheCount(check, x);
        refusesAfterTheWrap(check, x);
        answersUsedLevelsAfterTheWrap(check, x);
        buildsTheSameAgain(check, x);
        goesFullCircle(check, x);
    }

    private static void totalIsExactUpToTheEdge(Check check, HistEqual x) {
        int added = 0;
        for (int bits = 1; bits <= 31; bits++) {
            int below = (int) ((1L << bits) - 1);
            check.due("add(0) until " + below, addMany(x, 0, below - added), below);
            check.due(below + " samples: total()", x.total(), below);
            added = below;
            if (below < MAX) {
                check.due("add(0) after " + below, x.add(0), below + 1);
                check.due(below + 1 + " samples: total()", x.total(), below + 1);
                added++;
            }
        }
    }

    private static void mapStaysZeroUnbuilt(Check check, HistEqual x) {
        check.mapDue("MAX_VALUE samples, not built", x, 0, 0, 0, 0, 0, 0, 0, 0);
    }

    private static void refusesAtTheEdge(Check check, HistEqual x) {
        for (int gray : Check.OUTSIDE) {
            check.due("MAX_VALUE samples: add(" + gray + ")", x.add(gray), -1);
            check.due("MAX_VALUE samples: map(" + gray + ")", x.map(gray), -1);
            check.due("MAX_VALUE samples, after a refused add: total()", x.total(), MAX);
        }
    }

    private static void buildsAtTheEdge(Check check, HistEqual x) {
        check.due("MAX_VALUE samples: build()", x.build(), 1);
        check.mapDue("MAX_VALUE samples", x, 255, 255, 255, 255, 255, 255, 255, 255);
        check.due("MAX_VALUE samples, after build: total()", x.total(), MAX);
    }

    private static void sumsPastTheEdge(Check check, HistEqual x) {
        check.due("add(4)", x.add(4), 1);
        check.due("2^31 samples: build()", x.build(), 2);
        check.mapDue("2^31 samples", x, 254, 254, 254, 254, 255, 255, 255, 255);
    }

    private static void wrapsTheCount(Check check, HistEqual x) {
        check.due("add(0) at MAX_VALUE", x.add(0), MIN);
        check.due("add(0) after the wrap", x.add(0), MIN + 1);
        check.mapDue("wrapped, not built", x, 254, 254, 254, 254, 255, 255, 255, 255);
    }

    private static void refusesAfterTheWrap(Check check, HistEqual x) {
        for (int gray : Check.OUTSIDE) {
            check.due("wrapped: add(" + gray + ")", x.add(gray), -1);
            check.due("wrapped: map(" + gray + ")", x.map(gray), -1);
        }
        check.mapDue("wrapped, after refused adds", x, 254, 254, 254, 254, 255, 255, 255, 255);
        check.due("wrapped, after refused adds: add(0)", x.add(0), MIN + 2);
    }

    private static void answersUsedLevelsAfterTheWrap(Check check, HistEqual x) {
        check.due("wrapped: build()", x.build(), 1);
        check.due("wrapped: add(2)", x.add(2), 1);
        check.due("wrapped, another level: build()", x.build(), 2);
        check.due("wrapped: add(4)", x.add(4), 2);
        check.due("wrapped, a level again: build()", x.build(), 2);
    }

    // After a wrap only the range of the values is free; that a build repeats them is not.
    private static void buildsTheSameAgain(Check check, HistEqual x) {
        int answer = x.build();
        int[] values = new int[8];
        for (int g = 0; g < 8; g++) {
            values[g] = x.map(g);
        }
        x.add(-1);
        x.add(8);
        check.due("wrapped, again: build()", x.build(), answer);
        check.mapDue("wrapped, built again", x, values);
    }

    private static void goesFullCircle(Check check, HistEqual x) {
        check.due("add(0) until -1", addMany(x, 0, MAX - 2), -1);
        check.due("count -1: build()", x.build(), 2);
        // Each sum is between -1 and 2 and the total is past 2^32, so every value rounds to 0 from its side.
        check.mapDue("count -1", x, 0, 0, 0, 0, 0, 0, 0, 0);
        check.due("add(0) at -1", x.add(0), 0);
        check.due("count 0 again: build()", x.build(), 2);
        check.due("add(0) at 0", x.add(0), 1);
        check.due("count 1 again: build()", x.build(), 3);
        check.mapDue("count 1 again", x, 0, 0, 0, 0, 0, 0, 0, 0);
    }

    private static void everyLevel(Check check) {
        HistEqual x = new HistEqual();
        fillsEveryLevel(check, x);
        wrapsEveryLevel(check, x);
    }

    // No count has wrapped here, so the values are promised although the sum goes past 2^33.
    private static void fillsEveryLevel(Check check, HistEqual x) {
        for (int full = 1; full <= 8; full++) {
            check.due("add(" + (full - 1) + ") until MAX_VALUE", addMany(x, full - 1, MAX), MAX);
            check.due(full + " full levels: build()", x.build(), full);
            int[] values = new int[8];
            for (int g = 0; g < 8; g++) {
                values[g] = g < full ? (g + 1) * 255 / full : 255;
            }
            check.mapDue(full + " full levels", x, values);
        }
    }

    private static void wrapsEveryLevel(Check check, HistEqual x) {
        for (int g = 0; g < 8; g++) {
            check.due("add(" + g + ") at MAX_VALUE", x.add(g), MIN);
            check.due(g + 1 + " wrapped levels: build()", x.build(), 7 - g);
        }
        for (int g = 0; g < 8; g++) {
            check.due("all wrapped: add(" + g + ")", x.add(g), MIN + 1);
        }
    }

    // The values come from counts and total alone, whatever map was there before.
    private static void replacesTheMapAfterTheWrap(Check check) {
        HistEqual built = new HistEqual();
        built.add(0);
        built.build();
        HistEqual unbuilt = new HistEqual();
        unbuilt.add(0);
        check.due("built: add(0) until the wrap", addMany(built, 0, MAX), MIN);
        check.due("unbuilt: add(0) until the wrap", addMany(unbuilt, 0, MAX), MIN);
        check.due("built, no level above 0: build()", built.build(), 0);
        check.due("unbuilt, no level above 0: build()", unbuilt.build(), 0);
        for (int g = 0; g < 8; g++) {
            check.due("the same counts, built before or not: map(" + g + ")", built.map(g), unbuilt.map(g));
        }
        valuesOutsideTheRange(check, built);
    }

    // The object's one used level has just wrapped: the count is -2^31, the total 2^31.
    private static void valuesOutsideTheRange(Check check, HistEqual x) {
        lowBitsDue(check, "wrapped, every value -255", x, 1, 1, 1, 1, 1, 1, 1, 1);
        check.due("wrapped: add(3)", x.add(3), 1);
        check.due("wrapped, one of level 3: build()", x.build(), 1);
        lowBitsDue(check, "wrapped, every value -254 and a part", x, 2, 2, 2, 2, 2, 2, 2, 2);
    }

    // The range is free after a wrap, so only the eight bits that a byte keeps of the value are compared.
    private static void lowBitsDue(Check check, String when, HistEqual x, int... want) {
        for (int g = 0; g < want.length; g++) {
            check.due(when + ": low bits of map(" + g + ")", x.map(g) & 0xFF, want[g]);
        }
    }

    // Level 7 wraps, and yet every value is within 0..255: the sums are 2^31 - 1 and, at level 7, -1.
    private static void computesTheSameWayAfterTheWrap(Check check) {
        HistEqual x = new HistEqual();
        check.due("add(0) until MAX_VALUE", addMany(x, 0, MAX), MAX);
        x.build();
        check.mapDue("before the wrap", x, 255, 255, 255, 255, 255, 255, 255, 255);
        check.due("add(7) until MAX_VALUE", addMany(x, 7, MAX), MAX);
        check.due("add(7) at MAX_VALUE", x.add(7), MIN);
        check.due("level 7 wrapped: build()", x.build(), 1);
        check.mapDue("level 7 wrapped", x, 127, 127, 127, 127, 127, 127, 127, 0);
    }
}
