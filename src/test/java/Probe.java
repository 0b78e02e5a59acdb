import java.util.ArrayList;
import java.util.List;
import java.util.function.Supplier;

/**
 * All that can be seen of an object, by calls that may change it: two objects that are alike tell the
 * same. It is seen in parts, each on an object of its own, so that none needs more than 512 calls.
 */
final class Probe {
    private static final int PARTS = 7;

    private Probe() {
    }

    /** Whether an object on which a call was made can't be told from one on which it was not. */
    static boolean isUnchanged(Supplier<BarSteps> make, ByHand.Call call) {
        for (int part = 0; part < PARTS; part++) {
            BarSteps called = make.get();
            call.on(called);
            if (!seen(called, part).equals(seen(make.get(), part))) {
                return false;
            }
        }
        return true;
    }

    private static List<Long> seen(BarSteps x, int part) {
        List<Long> seen = new ArrayList<>();
        switch (part) {
            case 0 -> bar(x, seen);
            case 1 -> {
                seen.add((long) x.text());
                bar(x, seen);
            }
            case 2 -> {
                seen.add((long) x.back());
                bar(x, seen);
            }
            default -> sheet(x, part - 3, seen);
        }
        return seen;
    }

    private static void bar(BarSteps x, List<Long> seen) {
        for (int what = 0; what < 6; what++) {
            seen.add((long) x.count(what));
        }
        seen.add(x.line());
        for (int i = 0; i < x.count(0); i++) {
            cell(x, i, seen);
        }
        for (int i = 0; i < x.count(1); i++) {
            for (int what = 0; what < 3; what++) {
                seen.add((long) x.pulseOf(i, what));
            }
        }
        for (int which = 0; which < 2; which++) {
            seen.add((long) x.end(which, 1));
            seen.add((long) x.rule(which, 1));
        }
    }

    private static void cell(BarSteps x, int i, List<Long> seen) {
        for (int what = 0; what < 8; what++) {
            seen.add((long) x.of(i, what));
        }
        seen.add(x.t(i, 0));
        seen.add(x.t(i, 1));
    }

    /** A sheet's sort, its size, whether it tells true heats, and the cells that it tells. */
    private static void sheet(BarSteps x, int sheet, List<Long> seen) {
        for (int sort = 0; sort < 2; sort++) {
            seen.add((long) x.load(sheet, sort, 0, 0));
        }
        for (int n = 0; n <= 41; n++) {
            seen.add((long) x.copy(sheet, 0, sheet, 0, n));
        }
        for (int i = 0; i < x.count(0); i++) {
            seen.add((long) x.tells(sheet, i, 0));
        }
        for (int from = 0; from < 40; from += 20) {
            while (x.drop() >= 0) {
                seen.add(0L);
            }
            int sort = x.load(sheet, 0, 0, 0) == 0 ? 0 : 1;
            for (int i = 0; i < 5; i++) {
                seen.add((long) x.load(sheet, sort, from + 4 * i, 1));
            }
            for (int i = 0; i < x.count(0); i++) {
                cell(x, i, seen);
            }
        }
    }
}
