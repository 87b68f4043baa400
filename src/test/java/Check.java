/** Compares answers with the ones that are due, and ends the test with exit code 1 if one differed. */
final class Check {
    static final int[] OUTSIDE = {
        Integer.MIN_VALUE, Integer.MIN_VALUE + 1, Integer.MIN_VALUE + 7, -65536, -257, -256, -255, -249,
        -9, -8, -7, -3, -2, -1, 8, 9, 10, 15, 16, 17, 63, 64, 127, 128, 255, 256, 257, 263, 65536, 65539,
        1 << 30, Integer.MAX_VALUE - 7, Integer.MAX_VALUE - 1, Integer.MAX_VALUE
    };

    private int wrong = 0;

    void due(String call, long got, long want) {
        if (got != want) {
            wrong++;
            System.out.println(call + " answered " + got + ", due is " + want);
        }
    }

    void mapDue(String when, HistEqual x, int... want) {
        for (int g = 0; g < want.length; g++) {
            due(when + ": map(" + g + ")", x.map(g), want[g]);
        }
    }

    void end() {
        if (wrong != 0) {
            System.out.println(wrong + " answers are not as due");
            System.exit(1);
        }
    }
}
