/** Histogram equalisation of the grey levels 0..7 onto the values 0..255. */
public final class HistEqual {
    private static final int LEVELS = 8;
    private static final int REFUSED = -1;
    private static final long GREATEST_VALUE = 255L;
    private static final int UNSIGNED_BYTE = 0xFF;

    private final int[] counts = new int[LEVELS];
    private final byte[] values = new byte[LEVELS];
    // A long, so that the divisor of build stays exact past Integer.MAX_VALUE samples.
    private long accepted = 0L;

    public HistEqual() {
    }

    public int add(int gray) {
        if (!isLevel(gray)) {
            return REFUSED;
        }
        counts[gray]++;
        accepted++;
        return counts[gray];
    }

    public int total() {
        return (int) accepted;
    }

    public int build() {
        // A build without samples must keep the map, and nothing may be divided by 0.
        if (accepted == 0L) {
            return 0;
        }
        fillValues();
        return usedLevels();
    }

    public int map(int gray) {
        if (!isLevel(gray)) {
            return REFUSED;
        }
        // A byte is signed in Java; without the mask 255 would read as -1.
        return values[gray] & UNSIGNED_BYTE;
    }

    private static boolean isLevel(int gray) {
        return gray >= 0 && gray < LEVELS;
    }

    private void fillValues() {
        long cumulative = 0L;
        for (int level = 0; level < LEVELS; level++) {
            cumulative += counts[level];
            values[level] = (byte) (cumulative * GREATEST_VALUE / accepted);
        }
    }

    private int usedLevels() {
        int used = 0;
        for (int level = 0; level < LEVELS; level++) {
            if (counts[level] > 0) {
                used++;
            }
        }
        return used;
    }
}
