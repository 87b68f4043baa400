import java.math.BigInteger;
import java.util.ArrayList;
import java.util.List;

/** Promises 1 to 5 together: every run of six calls out of a small set, against a list of samples. */
final class ModelTest {
    private static final int BUILD = 100;
    private static final int[] CALLS = {0, 3, 7, -1, 8, BUILD};
    private static final int LENGTH = 6;

    private final List<Integer> samples = new ArrayList<>();
    private int[] map = new int[8];

    public static void main(String[] args) {
        Check check = new Check();
        int runs = 1;
        for (int i = 0; i < LENGTH; i++) {
            runs *= CALLS.length;
        }
        for (int run = 0; run < runs; run++) {
            oneRun(check, run);
        }
        check.end();
    }

    private static void oneRun(Check check, int run) {
        HistEqual x = new HistEqual();
        ModelTest model = new ModelTest();
        int rest = run;
        String told = "";
        for (int i = 0; i < LENGTH; i++) {
            int call = CALLS[rest % CALLS.length];
            rest /= CALLS.length;
            told += call == BUILD ? " build()" : " add(" + call + ")";
            if (call == BUILD) {
                check.due(told, x.build(), model.build());
            } else {
                check.due(told, x.add(call), model.add(call));
            }
            check.due(told + " total()", x.total(), model.samples.size());
            check.mapDue(told, x, model.map);
        }
    }

    private int add(int gray) {
        if (gray < 0 || gray > 7) {
            return -1;
        }
        samples.add(gray);
        return (int) samples.stream().filter(s -> s == gray).count();
    }

    private int build() {
        if (samples.isEmpty()) {
            return 0;
        }
        map = new int[8];
        for (int g = 0; g < 8; g++) {
            int level = g;
            BigInteger upTo = BigInteger.valueOf(samples.stream().filter(s -> s <= level).count());
            BigInteger all = BigInteger.valueOf(samples.size());
            map[g] = upTo.multiply(BigInteger.valueOf(255)).divide(all).intValue();
        }
        return (int) samples.stream().distinct().count();
    }
}
