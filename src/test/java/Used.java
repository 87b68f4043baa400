/** An object on which any change shows: every count is above 0, and its map is not the one a build would make now. */
final class Used {
    private static final int[] COUNTS = {15, 2, 3, 4, 5, 6, 7, 8};

    static HistEqual make() {
        HistEqual x = new HistEqual();
        for (int g = 0; g < 8; g++) {
            addTimes(x, g, g + 1);
        }
        x.build();
        addTimes(x, 0, 14);
        return x;
    }

    /** Ends the object's use, since the counts can only be seen by adding to them. */
    static void unchanged(Check check, String when, HistEqual x) {
        check.due(when + ": total()", x.total(), 50);
        check.mapDue(when, x, 7, 21, 42, 70, 106, 148, 198, 255);
        check.due(when + ": build()", x.build(), 8);
        builtAndUnchanged(check, when, x);
    }

    /** The same for an object that was built once more. */
    static void builtAndUnchanged(Check check, String when, HistEqual x) {
        check.due(when + ", built: total()", x.total(), 50);
        check.mapDue(when + ", built", x, 76, 86, 102, 122, 147, 178, 214, 255);
        for (int g = 0; g < 8; g++) {
            check.due(when + ": add(" + g + ")", x.add(g), COUNTS[g] + 1);
        }
    }

    private static void addTimes(HistEqual x, int gray, int times) {
        for (int i = 0; i < times; i++) {
            x.add(gray);
        }
    }
}
