import java.util.function.Supplier;

/**
 * Every number that every call takes: what it answers by the least and by the greatest that is taken, that
 * the ones beyond them are refused, and that a refused one changes nothing.
 */
public final class RangesTest extends ByHand {
    private static Supplier<BarSteps> make = BarSteps::new;

    /** A call in which one number is left open. */
    private interface Open {
        long by(BarSteps x, int v);
    }

    /** By the least number that is taken the call answers atLeast, by the greatest one atGreatest. */
    private record Range(int least, long atLeast, int greatest, long atGreatest) {
    }

    private static Range from(int least, long atLeast, int greatest, long atGreatest) {
        return new Range(least, atLeast, greatest, atGreatest);
    }

    private static void range(int promise, String what, Open call, Range r, long refused) {
        due(promise, what + " by " + r.least, call.by(make.get(), r.least), r.atLeast);
        due(promise, what + " by " + r.greatest, call.by(make.get(), r.greatest), r.atGreatest);
        for (int v : new int[] {r.least - 1, LEAST, r.greatest + 1, GREATEST}) {
            due(promise, what + " by " + v, call.by(make.get(), v), refused);
            due(promise, what + " by " + v + " changes nothing: 1",
                Probe.isUnchanged(make, x -> call.by(x, v)) ? 1 : 0, 1);
        }
    }

    public static void main(String[] args) {
        cells();
        ofCells();
        endsAndRules();
        heats();
        steps();
        steadyHeats();
        told();
        pulses();
        feedCall();
        loads();
        sheets();
        sheetSize();
        copies();
        endOf("RangesTest");
    }

    private static void cells() {
        make = BarSteps::new;
        range(2, "kind of cell", (x, v) -> x.cell(v, 1, 1, 0), from(0, 0, 5, 0), BAD);
        range(2, "k of cell", (x, v) -> x.cell(0, v, 1, 0), from(1, 0, 9, 0), BAD);
        range(2, "c of cell", (x, v) -> x.cell(0, 1, v, 0), from(1, 0, 4, 0), BAD);
        range(2, "heat of cell", (x, v) -> x.cell(0, 1, 1, v), from(0, 0, 999, 0), BAD);
        make = ByHand::rich;
        range(2, "kind of a fourth cell", (x, v) -> x.cell(v, 1, 1, 0), from(0, 3, 5, 3), BAD);
        range(4, "cell of set", (x, v) -> x.set(v, 3, 0), from(0, -9, 2, 4), NO_SUCH);
        range(4, "what of set", (x, v) -> x.set(0, v, 1), from(0, 4, 3, -9), NO_SUCH);
        range(4, "K by set", (x, v) -> x.set(0, 0, v), from(1, 4, 9, 4), NO_SUCH);
        range(4, "C by set", (x, v) -> x.set(0, 1, v), from(1, 1, 4, 1), NO_SUCH);
        range(4, "KIND by set", (x, v) -> x.set(0, 2, v), from(0, 0, 5, 0), NO_SUCH);
        range(4, "SOURCE by set", (x, v) -> x.set(0, 3, v), from(-9, -9, 9, -9), NO_SUCH);
        range(5, "cell of heat", (x, v) -> x.heat(v, 5), from(0, 1, 2, 1), BAD);
        range(5, "v of heat", (x, v) -> x.heat(1, v), from(0, 1, 999, 1), BAD);
    }

    private static void ofCells() {
        make = ByHand::rich;
        range(6, "cell of of", (x, v) -> x.of(v, 1), from(0, 4, 2, 2), NO_SUCH);
        range(6, "what of of", (x, v) -> x.of(1, v), from(0, 3, 7, 1346), NO_SUCH);
        range(7, "cell of taken", (x, v) -> x.taken(v, 0), from(0, 4, 2, 2), BAD);
        range(7, "k of taken", (x, v) -> x.taken(1, v), from(0, 7, 5, UNLIKE), BAD);
        range(8, "kin", (x, v) -> x.kin(v), from(0, 1, 5, 35), BAD);
        range(15, "stable", (x, v) -> x.stable(v), from(NONE, 1, 2, 1), BAD);
        range(41, "count", (x, v) -> x.count(v), from(0, 3, 5, -3), NO_SUCH);
    }

    private static void endsAndRules() {
        make = ByHand::rich;
        range(9, "side of end", (x, v) -> x.end(v, 5), from(0, 10, 1, -1), NO_SUCH);
        range(9, "v of end 0", (x, v) -> x.end(0, v), from(-1, 10, 999, 10), NO_SUCH);
        range(9, "v of end 1", (x, v) -> x.end(1, v), from(-1, -1, 999, -1), NO_SUCH);
        range(10, "rule", (x, v) -> x.rule(v, 5), from(0, 8, 1, 30), NO_SUCH);
        range(10, "FINE", (x, v) -> x.rule(0, v), from(1, 8, 20, 8), NO_SUCH);
        range(10, "AIR", (x, v) -> x.rule(1, v), from(0, 30, 999, 30), NO_SUCH);
    }

    private static void heats() {
        make = ByHand::three;
        range(11, "cell of t", (x, v) -> x.t(v, 0), from(0, 60, 2, 999), NO);
        range(11, "part of t", (x, v) -> x.t(0, v), from(0, 60, 1, 1), NO);
        range(13, "joint", (x, v) -> x.joint(v), from(-1, 4, 2, 0), BAD);
        range(14, "i of flow", (x, v) -> x.flow(v, 0), from(-1, -200, 2, 0), NO);
        range(14, "part of flow", (x, v) -> x.flow(0, v), from(0, 180, 1, 1), NO);
        // 60, 2 times 15, 6 times 999
        range(17, "sum", (x, v) -> x.sum(v), from(0, 6084, 1, 1), NO);
        range(18, "most", (x, v) -> x.most(v), from(0, 2, 1, 1), BAD);
        make = () -> alike(8, 0, 3, 1, 0);
        range(13, "joint of 8 cells", (x, v) -> x.joint(v), from(-1, 0, 7, 0), BAD);
        range(14, "i of flow of 8 cells", (x, v) -> x.flow(v, 1), from(-1, 1, 7, 1), NO);
        make = () -> bar(0, 3, 1, 0);
        range(13, "joint of one cell", (x, v) -> x.joint(v), from(-1, 0, 0, 0), BAD);
        range(15, "stable, of one cell", (x, v) -> x.stable(v), from(NONE, 1, 0, 1), BAD);
        make = BarSteps::new;
        range(18, "most without cells", (x, v) -> x.most(v), from(0, NONE, 1, NONE), BAD);
        range(17, "sum without cells", (x, v) -> x.sum(v), from(0, 0, 1, 1), NO);
        range(15, "stable without cells", (x, v) -> x.stable(v), from(NONE, 1, NONE, 1), BAD);
    }

    /** Two cells at rest, at 5. */
    private static BarSteps still() {
        return alike(2, 0, 1, 1, 5);
    }

    private static void steps() {
        make = RangesTest::still;
        range(19, "step", (x, v) -> x.step(v), from(1, 1, 40, 40), BAD);
        range(20, "n of then", (x, v) -> x.then(v, 0, 0), from(0, 5, 40, 5), NO);
        range(20, "cell of then", (x, v) -> x.then(1, v, 0), from(0, 5, 1, 5), NO);
        range(20, "part of then", (x, v) -> x.then(1, 0, v), from(0, 5, 1, 1), NO);
        range(22, "rises", (x, v) -> x.rises(v), from(1, NONE, 40, NONE), BAD);
        make = () -> {
            BarSteps x = still();
            x.pulse(1, 1, 1);
            return x;
        };
        range(22, "rises by a pulse", (x, v) -> x.rises(v), from(1, 1, 40, 1), BAD);
        // FINE 2 evens two cells in one step
        make = () -> {
            BarSteps x = bar(0, 1, 1, 999, 0, 1, 1, 0);
            x.rule(0, 2);
            return x;
        };
        range(23, "calm", (x, v) -> x.calm(v), from(0, 1, 999, 0), BAD);
        // A fourth each step: 4^20 is above the bound
        make = () -> {
            BarSteps x = bar(3, 1, 1, 0);
            x.rule(1, 1);
            return x;
        };
        range(21, "spent", (x, v) -> x.spent(v), from(0, 20, 1, NONE), BAD);
        make = BarSteps::new;
        range(21, "spent without cells", (x, v) -> x.spent(v), from(0, NONE, 1, NONE), BAD);
    }

    /** Two cells between 0 and 1, at steady heats of 1/3 and 2/3; four sheets that tell nothing. */
    private static BarSteps ramp() {
        BarSteps x = alike(2, 0, 1, 1, 0);
        x.end(0, 0);
        x.end(1, 1);
        for (int sheet = 0; sheet < 4; sheet++) {
            x.sheet(sheet, sheet % 2, 0);
        }
        return x;
    }

    private static void steadyHeats() {
        make = RangesTest::ramp;
        range(27, "cell of steady", (x, v) -> x.steady(v, 0), from(0, 1, 1, 2), NO);
        range(27, "part of steady", (x, v) -> x.steady(0, v), from(0, 1, 1, 3), NO);
        range(28, "i of steadyFlow", (x, v) -> x.steadyFlow(v, 0), from(-1, -1, 1, -1), NO);
        range(28, "part of steadyFlow", (x, v) -> x.steadyFlow(0, v), from(0, -1, 1, 3), NO);
        range(32, "sheet of buried", (x, v) -> x.buried(v, 0), from(0, 0, 3, 0), BAD);
        range(32, "what of buried", (x, v) -> x.buried(0, v), from(0, 0, 1, 38), BAD);
    }

    private static void told() {
        make = RangesTest::ramp;
        range(33, "sheet of tells", (x, v) -> x.tells(v, 0, 0), from(0, NONE, 3, NONE), BAD);
        range(33, "cell of tells", (x, v) -> x.tells(0, v, 1), from(0, 63, 1, 63), BAD);
        range(33, "what of tells", (x, v) -> x.tells(0, 0, v), from(0, NONE, 1, 63), BAD);
        range(34, "sheet of film", (x, v) -> x.film(v, 0, 2), from(0, 2, 3, 2), BAD);
        range(34, "cell of film", (x, v) -> x.film(0, v, 2), from(0, 2, 1, 2), BAD);
        range(34, "n of film", (x, v) -> x.film(0, 0, v), from(0, 0, 10, 10), BAD);
        make = () -> bar(0, 1, 1, 5);
        // By SEED 1 twenty steps bring 2, 7, 2, 2, 8, 9, 6, 1, 1, 5, 1, 7, 7, 1, 4, 4, 6, 1, 9, 5: 88
        range(35, "n of drawn", (x, v) -> x.drawn(1, v), from(0, 5, 20, 93), NO);
        make = ByHand::rich;
        range(33, "sheet of tells", (x, v) -> x.tells(v, 0, 0), from(0, NONE, 3, BAD), BAD);
        range(34, "sheet of film", (x, v) -> x.film(v, 0, 3), from(0, 3, 3, 3), BAD);
        range(34, "cell of film", (x, v) -> x.film(3, v, 3), from(0, 3, 2, 3), BAD);
    }

    private static void pulses() {
        make = ByHand::rich;
        range(24, "cell of pulse", (x, v) -> x.pulse(v, 1, 1), from(0, 5, 2, 5), BAD);
        range(24, "due of pulse", (x, v) -> x.pulse(0, v, 1), from(1, 5, 20, 5), BAD);
        range(24, "heat of pulse", (x, v) -> x.pulse(0, 1, v), from(-99, 5, 99, 5), BAD);
        range(25, "i of pulseOf", (x, v) -> x.pulseOf(v, 2), from(0, -7, 3, 1), NO_SUCH);
        range(25, "what of pulseOf", (x, v) -> x.pulseOf(1, v), from(0, 2, 2, 50), NO_SUCH);
        range(26, "hush", (x, v) -> x.hush(v), from(0, 1, 2, 1), BAD);
        make = ByHand::full;
        range(25, "i of pulseOf, of twelve", (x, v) -> x.pulseOf(v, 1), from(0, 1, 11, 12), NO_SUCH);
        range(26, "hush, of 8 cells", (x, v) -> x.hush(v), from(0, 2, 7, 1), BAD);
    }

    private static void feedCall() {
        make = ByHand::rich;
        range(36, "n of feed", (x, v) -> x.feed(v, 1, 2, 3, 4, 5), from(1, 25, 5, 29), BAD);
        for (int n : new int[] {1, 5}) {
            Range r = from(0, 24 + n, 255, 24 + n);
            range(36, "a of feed of " + n, (x, v) -> x.feed(n, v, 2, 3, 4, 5), r, BAD);
            range(36, "b of feed of " + n, (x, v) -> x.feed(n, 1, v, 3, 4, 5), r, BAD);
            range(36, "c of feed of " + n, (x, v) -> x.feed(n, 1, 2, v, 4, 5), r, BAD);
            range(36, "d of feed of " + n, (x, v) -> x.feed(n, 1, 2, 3, v, 5), r, BAD);
            range(36, "e of feed of " + n, (x, v) -> x.feed(n, 1, 2, 3, 4, v), r, BAD);
        }
    }

    /** Four sheets of 40 that tell cells, and no cell yet. */
    private static BarSteps tables() {
        BarSteps x = new BarSteps();
        for (int sheet = 0; sheet < 4; sheet++) {
            fill(x, sheet, SHORTS);
        }
        return x;
    }

    private static void loads() {
        make = RangesTest::tables;
        range(40, "sheet of load", (x, v) -> x.load(v, SHORTS, 0, 1), from(0, 1, 3, 1), BAD);
        range(40, "sort of load", (x, v) -> x.load(0, v, 0, 1), from(SHORTS, 1, INTS, UNLIKE), BAD);
        range(40, "n of load", (x, v) -> x.load(0, SHORTS, 0, v), from(0, 0, 8, 8), BAD);
        range(40, "from of load of one", (x, v) -> x.load(0, SHORTS, v, 1), from(0, 1, 36, 1), OUTSIDE);
    }

    private static void sheets() {
        make = RangesTest::tables;
        range(42, "sheet of sheet", (x, v) -> x.sheet(v, INTS, 3), from(0, 1, 3, 1), BAD);
        range(42, "sort of sheet", (x, v) -> x.sheet(0, v, 3), from(-1, 1, INTS, 1), BAD);
        range(43, "sheet of put", (x, v) -> x.put(v, 0, 3), from(0, 1, 3, 1), BAD);
        range(43, "i of put", (x, v) -> x.put(0, v, 3), from(0, 1, 39, 1), OUTSIDE);
        due(43, "the least v of put", make.get().put(0, 0, LEAST), 1);
        due(43, "the greatest v of put", make.get().put(0, 0, GREATEST), 1);
    }

    /** Beyond 40 it is BAD, below 0 it is -14. */
    private static void sheetSize() {
        make = RangesTest::tables;
        for (int sort = 0; sort < 2; sort++) {
            int its = sort;
            due(42, "a size of 0", make.get().sheet(0, sort, 0), 1);
            due(42, "a size of 40", make.get().sheet(0, sort, 40), 1);
            for (int n : new int[] {41, GREATEST, -1, LEAST}) {
                due(42, "a size of " + n, make.get().sheet(0, sort, n), n < 0 ? SIZE_BELOW_0 : BAD);
                due(42, "it changes nothing: 1", Probe.isUnchanged(make, x -> x.sheet(0, its, n)) ? 1 : 0, 1);
            }
        }
        for (int n : new int[] {0, 40, 41, GREATEST, -1, LEAST}) {
            BarSteps x = make.get();
            due(42, "missing by sort -1 with n " + n, x.sheet(0, -1, n), 1);
            due(42, "it is missing", x.put(0, 0, 0), MISSING);
        }
    }

    private static void copies() {
        make = RangesTest::tables;
        range(44, "sheet of copy", (x, v) -> x.copy(v, 1, 0, 0, 4), from(0, 4, 3, 4), BAD);
        range(44, "other of copy", (x, v) -> x.copy(0, 1, v, 0, 4), from(0, 4, 3, 4), BAD);
        range(44, "i of copy", (x, v) -> x.copy(0, v, 1, 0, 3), from(0, 3, 37, 3), OUTSIDE);
        range(44, "j of copy", (x, v) -> x.copy(0, 1, 1, v, 3), from(0, 3, 37, 3), OUTSIDE);
        range(44, "n of copy", (x, v) -> x.copy(0, 0, 1, 0, v), from(0, 0, 40, 40), OUTSIDE);
        range(44, "n of copy from 7 on", (x, v) -> x.copy(0, 7, 1, 0, v), from(0, 0, 33, 33), OUTSIDE);
        range(44, "n of copy to 9 on", (x, v) -> x.copy(0, 0, 1, 9, v), from(0, 0, 31, 31), OUTSIDE);
    }
}
