import java.util.function.Supplier;

/**
 * "Refusals, the first that the call's words name; they change nothing": what refuses beside the ranges of
 * single numbers (these are RangesTest's), and which of two refusals is answered. Each refused call is
 * made on an object that is then compared with one on which it was not made.
 */
public final class RefusalsTest extends ByHand {
    private static Supplier<BarSteps> make = BarSteps::new;

    private static void refused(int promise, String what, Call call, long want) {
        due(promise, what, call.on(make.get()), want);
        due(promise, what + ": it changes nothing: 1", Probe.isUnchanged(make, call) ? 1 : 0, 1);
    }

    private static void seen(String what, Call call) {
        due(1, "a change of " + what + " is seen: 0", Probe.isUnchanged(make, call) ? 1 : 0, 0);
    }

    private static void looked(int promise, String what, Call call) {
        due(promise, what + " changes nothing: 1", Probe.isUnchanged(make, call) ? 1 : 0, 1);
    }

    public static void main(String[] args) {
        whatIsSeen();
        whatIsSeenOfSheets();
        withoutCells();
        withoutCellsNumbers();
        nothingThere();
        noRoom();
        noRoomButBad();
        noSteadyHeats();
        spentSteps();
        buriedOrder();
        tellsOrder();
        loadOrder();
        sheetAndPutOrder();
        copyOrder();
        lookingKeepsNothing();
        endOf("RefusalsTest");
    }

    /** What these tests rest on: if something were changed, it would be seen. */
    private static void whatIsSeen() {
        make = ByHand::rich;
        seen("T", x -> x.heat(0, 11));
        seen("the last T", x -> x.heat(2, 997));
        seen("K", x -> x.set(0, 0, 5));
        seen("C", x -> x.set(0, 1, 2));
        seen("KIND", x -> x.set(0, 2, 1));
        seen("SOURCE", x -> x.set(0, 3, -8));
        seen("the left end", x -> x.end(0, 11));
        seen("the right end", x -> x.end(1, 0));
        seen("FINE", x -> x.rule(0, 9));
        seen("AIR", x -> x.rule(1, 31));
        seen("a cell more", x -> x.cell(0, 1, 1, 1));
        seen("a cell less", x -> x.drop());
        seen("a step", x -> x.step(1));
        seen("a pulse more", x -> x.pulse(0, 1, 1));
        seen("a pulse less", x -> x.hush(0));
        seen("the tape, more", x -> x.feed(1, ';', 0, 0, 0, 0));
        seen("the tape, more blanks", x -> x.feed(1, ' ', 0, 0, 0, 0));
        seen("the image", x -> x.image());
        seen("all by the image", x -> x.back());
        seen("all by a text", x -> x.text());
        make = BarSteps::new;
        seen("an image of nothing", x -> x.image());
    }

    private static void whatIsSeenOfSheets() {
        make = ByHand::rich;
        seen("a number of shorts", x -> x.put(0, 1, 500));
        seen("a number of ints", x -> x.put(1, 2, 500));
        seen("the last number", x -> x.put(3, 39, 5));
        seen("a number in the midst", x -> x.put(3, 21, 5));
        seen("a size", x -> x.sheet(3, SHORTS, 39));
        seen("a sort", x -> x.sheet(3, INTS, 40));
        seen("a sheet that is missing", x -> x.sheet(1, -1, 0));
        seen("a sheet that was missing", x -> x.sheet(2, SHORTS, 0));
        seen("a film", x -> x.film(3, 0, 1));
        seen("a copy", x -> x.copy(3, 0, 3, 1, 4));
    }

    /** STATE, where there are no CELLS. */
    private static void withoutCells() {
        make = BarSteps::new;
        refused(3, "drop without cells", x -> x.drop(), STATE);
        refused(19, "step without cells", x -> x.step(1), STATE);
        refused(19, "step: BAD is ahead of STATE, below", x -> x.step(0), BAD);
        refused(19, "step: BAD is ahead of STATE, above", x -> x.step(41), BAD);
        refused(22, "rises without cells", x -> x.rises(40), STATE);
        refused(22, "rises: BAD is ahead of STATE, below", x -> x.rises(0), BAD);
        refused(22, "rises: BAD is ahead of STATE, above", x -> x.rises(41), BAD);
        refused(23, "calm without cells", x -> x.calm(0), STATE);
        refused(23, "calm: BAD is ahead of STATE, below", x -> x.calm(-1), BAD);
        refused(23, "calm: BAD is ahead of STATE, above", x -> x.calm(1000), BAD);
        refused(30, "lay without cells", x -> x.lay(), STATE);
        refused(35, "drawn without cells", x -> x.drawn(1, 1), NO);
        refused(35, "drawn without cells, no step", x -> x.drawn(1, 0), NO);
        refused(39, "back without an image", x -> x.back(), STATE);
        refused(18, "most: BAD also without cells", x -> x.most(2), BAD);
        refused(21, "spent: BAD also without cells", x -> x.spent(2), BAD);
    }

    /** A number of a cell, a joint, a pulse or a sheet is none such, where there are none of them. */
    private static void withoutCellsNumbers() {
        make = BarSteps::new;
        for (int i = -1; i <= 1; i++) {
            int n = i;
            refused(4, "set without cells", x -> x.set(n, 0, 1), NO_SUCH);
            refused(5, "heat without cells", x -> x.heat(n, 1), BAD);
            refused(6, "of without cells", x -> x.of(n, 0), NO_SUCH);
            refused(7, "taken without cells", x -> x.taken(n, 0), BAD);
            refused(11, "t without cells", x -> x.t(n, 0), NO);
            refused(13, "joint without cells", x -> x.joint(n), BAD);
            refused(14, "flow without cells", x -> x.flow(n, 0), NO);
            refused(20, "then without cells", x -> x.then(0, n, 0), NO);
            refused(24, "pulse without cells", x -> x.pulse(n, 1, 1), BAD);
            refused(25, "pulseOf without pulses", x -> x.pulseOf(n, 0), NO_SUCH);
            refused(26, "hush without cells", x -> x.hush(n), BAD);
            refused(27, "steady without cells", x -> x.steady(n, 0), NO);
            refused(28, "steadyFlow without cells", x -> x.steadyFlow(n, 0), NO);
            refused(33, "tells without cells: BAD is ahead of -11", x -> x.tells(0, n, 0), BAD);
            refused(34, "film without cells", x -> x.film(0, n, 0), BAD);
        }
        refused(15, "stable without cells", x -> x.stable(0), BAD);
        make = () -> {
            BarSteps x = new BarSteps();
            x.end(0, 5);
            x.end(1, 5);
            return x;
        };
        refused(13, "joint without cells, ends held", x -> x.joint(-1), BAD);
        refused(14, "flow without cells, ends held", x -> x.flow(-1, 0), NO);
        refused(28, "steadyFlow without cells, ends held", x -> x.steadyFlow(-1, 0), NO);
        refused(30, "lay without cells, ends held", x -> x.lay(), STATE);
        due(29, "hottest without cells, ends held", make.get().hottest(), NONE);
    }

    /** Sheets are missing at first, whatever is asked of them. */
    private static void nothingThere() {
        make = BarSteps::new;
        for (int i = 0; i < 4; i++) {
            int s = i;
            refused(32, "buried of a missing sheet", x -> x.buried(s, 0), MISSING);
            refused(32, "buried of a missing sheet", x -> x.buried(s, 1), MISSING);
            refused(40, "load of missing shorts, n 0", x -> x.load(s, SHORTS, 0, 0), MISSING);
            refused(40, "load of missing ints, n 0", x -> x.load(s, INTS, 0, 0), MISSING);
            refused(40, "load of missing shorts, n 8", x -> x.load(s, SHORTS, 0, 8), MISSING);
            refused(40, "load of missing ints, n 8", x -> x.load(s, INTS, 0, 8), MISSING);
            refused(43, "put to a missing sheet", x -> x.put(s, 0, 0), MISSING);
            refused(44, "copy of missing ones", x -> x.copy(s, 0, 3 - s, 0, 0), MISSING);
            refused(44, "copy of a missing one to itself", x -> x.copy(s, 0, s, 0, 1), MISSING);
        }
        make = () -> bar(0, 1, 1, 5);
        refused(33, "tells of a missing sheet", x -> x.tells(0, 0, 0), MISSING);
        refused(33, "tells of a missing sheet", x -> x.tells(3, 0, 1), MISSING);
    }

    private static void noRoom() {
        make = ByHand::full;
        refused(2, "a ninth cell", x -> x.cell(0, 1, 1, 0), FULL);
        refused(2, "a ninth cell", x -> x.cell(5, 9, 4, 999), FULL);
        refused(24, "a thirteenth pulse", x -> x.pulse(0, 1, 1), FULL);
        refused(24, "a thirteenth pulse", x -> x.pulse(7, 20, -99), FULL);
        for (int i = 1; i <= 5; i++) {
            int n = i;
            refused(36, "feed of " + n + " behind 60", x -> x.feed(n, 1, 1, 1, 1, 1), FULL);
        }
        // 56 bytes: four have room, five have not
        make = () -> {
            BarSteps x = new BarSteps();
            for (int i = 0; i < 14; i++) {
                x.feed(4, 'l', 'e', 'f', 't', 0);
            }
            return x;
        };
        refused(36, "not all of five have room: none comes", x -> x.feed(5, 1, 1, 1, 1, 1), FULL);
        due(36, "four have room", make.get().feed(4, 1, 1, 1, 1, 1), 60);
        // A full bar loads nothing, and is not refused for it
        make = ByHand::full;
        looked(40, "load to a full bar", x -> x.load(0, SHORTS, 0, 8));
        due(40, "load to a full bar", make.get().load(0, SHORTS, 0, 8), 0);
    }

    /** BAD is named ahead of FULL. */
    private static void noRoomButBad() {
        make = ByHand::full;
        refused(2, "a ninth cell, its kind is bad", x -> x.cell(6, 1, 1, 0), BAD);
        refused(2, "a ninth cell, its k is bad", x -> x.cell(0, 10, 1, 0), BAD);
        refused(2, "a ninth cell, its c is bad", x -> x.cell(0, 1, 0, 0), BAD);
        refused(2, "a ninth cell, its heat is bad", x -> x.cell(0, 1, 1, 1000), BAD);
        refused(24, "a thirteenth pulse, its cell is bad", x -> x.pulse(8, 1, 1), BAD);
        refused(24, "a thirteenth pulse, its due is bad", x -> x.pulse(0, 0, 1), BAD);
        refused(24, "a thirteenth pulse, its heat is bad", x -> x.pulse(0, 1, 100), BAD);
        refused(36, "feed behind 60, n is bad", x -> x.feed(6, 1, 1, 1, 1, 1), BAD);
        refused(36, "feed behind 60, n is bad", x -> x.feed(0, 1, 1, 1, 1, 1), BAD);
        refused(36, "feed behind 60, a byte is bad", x -> x.feed(1, 256, 1, 1, 1, 1), BAD);
        refused(36, "feed behind 60, a byte that is not asked is bad", x -> x.feed(1, 1, 1, 1, 1, -1), BAD);
    }

    /** Both ends are SHUT, no CELL has a FIN. */
    private static void noSteadyHeats() {
        make = ByHand::full;
        refused(27, "steady, there are none", x -> x.steady(0, 0), NO);
        refused(28, "steadyFlow, there are none", x -> x.steadyFlow(0, 0), NO);
        refused(28, "steadyFlow at an end, there are none", x -> x.steadyFlow(-1, 1), NO);
        refused(30, "lay, there are none", x -> x.lay(), STATE);
        due(29, "hottest, there are none", make.get().hottest(), NONE);
    }

    /** A cell at rest over a line of 10^12: a pulse that makes T greater than 1 is too large for it. */
    private static BarSteps waiting() {
        BarSteps x = atTheBound();
        x.pulse(0, 3, 5);
        row(x, 0, SHORTS, 1, 2, 3, 4);
        return x;
    }

    private static void spentSteps() {
        make = RefusalsTest::waiting;
        due(19, "two steps are done", make.get().step(40), 2);
        refused(20, "then, one is spent", x -> x.then(3, 0, 0), NO);
        due(20, "then, none is spent", make.get().then(2, 0, 1), BOUND);
        refused(34, "film, one is spent: the sheet stays", x -> x.film(0, 0, 4), STATE);
        refused(34, "film, one is spent: the missing sheet stays", x -> x.film(1, 0, 10), STATE);
        refused(34, "film: BAD is ahead of STATE, sheet", x -> x.film(4, 0, 4), BAD);
        refused(34, "film: BAD is ahead of STATE, cell", x -> x.film(0, 1, 4), BAD);
        refused(34, "film: BAD is ahead of STATE, n", x -> x.film(0, 0, 11), BAD);
        due(34, "film, none is spent", make.get().film(0, 0, 3), 3);
        // SEED 0 brings 0, 9: the second step is spent
        due(35, "drawn, none is spent", make.get().drawn(0, 1), 0);
        refused(35, "drawn, one is spent", x -> x.drawn(0, 2), NO);
        make = () -> {
            BarSteps x = waiting();
            x.step(2);
            return x;
        };
        due(19, "the next one is spent", make.get().step(1), 0);
        looked(19, "a step that is spent", x -> x.step(1));
        looked(19, "forty steps, the first is spent", x -> x.step(40));
    }

    /** BAD: SHEET, what; -11; BAD: it tells more than there are CELLS; STATE. */
    private static void buriedOrder() {
        make = () -> {
            BarSteps x = alike(2, 0, 1, 1, 5);
            x.sheet(0, SHORTS, 2);
            x.sheet(1, INTS, 3);
            return x;
        };
        refused(32, "STATE alone", x -> x.buried(0, 0), STATE);
        refused(32, "STATE alone", x -> x.buried(0, 1), STATE);
        refused(32, "it tells more is ahead of STATE", x -> x.buried(1, 0), BAD);
        refused(32, "-11 is ahead of STATE", x -> x.buried(2, 0), MISSING);
        refused(32, "SHEET is ahead of STATE", x -> x.buried(4, 0), BAD);
        refused(32, "what is ahead of -11", x -> x.buried(2, 2), BAD);
        refused(32, "what is ahead of STATE", x -> x.buried(0, -1), BAD);
        make = () -> {
            BarSteps x = new BarSteps();
            x.sheet(0, SHORTS, 0);
            x.sheet(1, SHORTS, 1);
            return x;
        };
        due(32, "without cells it is not STATE", make.get().buried(0, 0), NONE);
        due(32, "without cells it is not STATE", make.get().buried(0, 1), 0);
        refused(32, "without cells, it tells more", x -> x.buried(1, 0), BAD);
        refused(32, "without cells, it tells more", x -> x.buried(1, 1), BAD);
        refused(32, "without cells, what", x -> x.buried(0, 2), BAD);
    }

    /** BAD: SHEET, cell, what; -11; BAD: it tells more than 10. */
    private static void tellsOrder() {
        make = () -> {
            BarSteps x = alike(2, 0, 1, 1, 0);
            x.sheet(0, SHORTS, 10);
            x.sheet(1, INTS, 11);
            x.sheet(3, INTS, 40);
            return x;
        };
        due(33, "it tells 10", make.get().tells(0, 0, 0), NONE);
        refused(33, "it tells 11", x -> x.tells(1, 0, 0), BAD);
        refused(33, "it tells 11", x -> x.tells(1, 0, 1), BAD);
        refused(33, "it tells 40", x -> x.tells(3, 1, 1), BAD);
        refused(33, "it is missing", x -> x.tells(2, 0, 0), MISSING);
        refused(33, "cell is ahead of -11", x -> x.tells(2, 2, 0), BAD);
        refused(33, "what is ahead of -11", x -> x.tells(2, 0, 2), BAD);
    }

    /** BAD: no such SHEET, sort, n; -11; -13 (both also with n 0); -12: what stood ahead came. */
    private static void loadOrder() {
        make = ByHand::rich;
        refused(40, "sort is ahead of -11", x -> x.load(2, 2, 0, 0), BAD);
        refused(40, "n is ahead of -11", x -> x.load(2, 0, 0, 9), BAD);
        refused(40, "-11 is ahead of -12", x -> x.load(2, 0, 99, 8), MISSING);
        refused(40, "sort is ahead of -13", x -> x.load(3, 2, 0, 0), BAD);
        refused(40, "n is ahead of -13", x -> x.load(3, INTS, 0, -1), BAD);
        refused(40, "n is ahead of -12", x -> x.load(3, SHORTS, 40, 9), BAD);
        refused(40, "-13 with n 0, shorts", x -> x.load(3, INTS, 0, 0), UNLIKE);
        refused(40, "-13 with n 0, ints", x -> x.load(1, SHORTS, 0, 0), UNLIKE);
        refused(40, "-13 is ahead of -12", x -> x.load(3, INTS, 99, 8), UNLIKE);
        refused(40, "-12 where nothing stood ahead", x -> x.load(3, SHORTS, 37, 8), OUTSIDE);
        refused(40, "-12 ahead of the first", x -> x.load(3, SHORTS, -1, 8), OUTSIDE);
        refused(40, "-12 of a sheet of three", x -> x.load(1, INTS, 0, 1), OUTSIDE);
        make = ByHand::full;
        refused(40, "-12 of a full bar, too", x -> x.load(0, SHORTS, 12, 8), OUTSIDE);
        make = BarSteps::new;
        BarSteps x = make.get();
        fill(x, 0, INTS);
        due(40, "seven stand ahead", x.load(0, INTS, 9, 8), OUTSIDE);
        due(40, "they came", x.count(0), 7);
        x = make.get();
        fill(x, 0, INTS);
        due(40, "up to the last number", x.load(0, INTS, 8, 8), 8);
        due(40, "they came", x.count(0), 8);
    }

    /** sheet: BAD ahead of -14; put: BAD, -11, -12. */
    private static void sheetAndPutOrder() {
        make = ByHand::rich;
        refused(42, "SHEET is ahead of -14", x -> x.sheet(4, SHORTS, -1), BAD);
        refused(42, "sort is ahead of -14", x -> x.sheet(0, 2, -1), BAD);
        refused(42, "sort is ahead of -14", x -> x.sheet(0, -2, LEAST), BAD);
        refused(42, "no such SHEET, though it would be missing", x -> x.sheet(-1, -1, 0), BAD);
        refused(43, "SHEET is ahead of -12", x -> x.put(4, -1, 0), BAD);
        refused(43, "SHEET is ahead of -12", x -> x.put(-1, 99, 0), BAD);
        refused(43, "-11 is ahead of -12", x -> x.put(2, -1, 0), MISSING);
        refused(43, "-11 is ahead of -12", x -> x.put(2, 99, 0), MISSING);
        refused(43, "-12 behind the last", x -> x.put(0, 3, 0), OUTSIDE);
        make = () -> {
            BarSteps x = new BarSteps();
            x.sheet(0, SHORTS, 0);
            return x;
        };
        refused(43, "-12 of a sheet of size 0", x -> x.put(0, 0, 0), OUTSIDE);
    }

    /** copy: BAD; -11; -13; -12 (also with n below 0). */
    private static void copyOrder() {
        make = ByHand::rich;
        refused(44, "SHEET is ahead of -11", x -> x.copy(4, 0, 2, 0, 1), BAD);
        refused(44, "the other SHEET is ahead of -11", x -> x.copy(2, 0, 4, 0, 1), BAD);
        refused(44, "the other SHEET is ahead of -12", x -> x.copy(0, 9, -1, 9, -1), BAD);
        refused(44, "-11 of the one", x -> x.copy(2, 0, 0, 0, 1), MISSING);
        refused(44, "-11 of the other", x -> x.copy(0, 0, 2, 0, 1), MISSING);
        refused(44, "-11 of the one is ahead of -12", x -> x.copy(2, 99, 0, 99, -1), MISSING);
        refused(44, "-11 of the other is ahead of -12", x -> x.copy(0, -1, 2, 0, -1), MISSING);
        refused(44, "-13, shorts to ints", x -> x.copy(0, 0, 1, 0, 1), UNLIKE);
        refused(44, "-13, ints to shorts", x -> x.copy(1, 0, 0, 0, 1), UNLIKE);
        refused(44, "-13 with n 0", x -> x.copy(1, 0, 0, 0, 0), UNLIKE);
        refused(44, "-13 is ahead of -12, n", x -> x.copy(1, 0, 0, 0, -1), UNLIKE);
        refused(44, "-13 is ahead of -12, i", x -> x.copy(1, 4, 0, 0, 1), UNLIKE);
        refused(44, "-13 is ahead of -12, j", x -> x.copy(1, 0, 0, -1, 1), UNLIKE);
        refused(44, "-12 of the one", x -> x.copy(0, 1, 3, 0, 3), OUTSIDE);
        refused(44, "-12 of the other", x -> x.copy(3, 0, 0, 1, 3), OUTSIDE);
        refused(44, "-12 with n below 0", x -> x.copy(3, 5, 3, 5, -1), OUTSIDE);
        refused(44, "-12 with the least n", x -> x.copy(3, 5, 3, 5, LEAST), OUTSIDE);
        refused(44, "-12 with all the greatest", x -> x.copy(3, GREATEST, 3, GREATEST, GREATEST), OUTSIDE);
    }

    /** IN THOUGHT: nothing is kept of it; nor of any other call that only tells. */
    private static void lookingKeepsNothing() {
        for (Supplier<BarSteps> each : java.util.List.<Supplier<BarSteps>>of(ByHand::rich, ByHand::full,
                RefusalsTest::waiting, BarSteps::new)) {
            make = each;
            looked(20, "then", x -> x.then(5, 0, 0));
            looked(20, "then", x -> x.then(40, 0, 1));
            looked(21, "spent", x -> x.spent(0) + x.spent(1));
            looked(22, "rises", x -> x.rises(40));
            looked(23, "calm", x -> x.calm(0));
            looked(33, "tells", x -> x.tells(0, 0, 0) + x.tells(0, 0, 1));
            looked(33, "tells", x -> x.tells(1, 0, 0) + x.tells(1, 0, 1));
            looked(35, "drawn", x -> x.drawn(1, 2) + x.drawn(7, 20));
            looked(27, "steady", x -> x.steady(0, 0) + x.steadyFlow(0, 0));
            looked(29, "hottest", x -> x.hottest());
            looked(31, "isSteady", x -> x.isSteady());
            looked(32, "buried", x -> x.buried(0, 0) + x.buried(0, 1) + x.buried(3, 1));
            looked(11, "t, line, flow", x -> x.t(0, 0) + x.line() + x.flow(0, 0) + x.joint(0));
            looked(15, "stable, need, sum, most", x -> x.stable(-1) + x.need() + x.sum(0) + x.most(0));
            looked(6, "of, taken, kin", x -> x.of(0, 7) + x.taken(0, 0) + x.kin(0));
            looked(25, "pulseOf, count", x -> x.pulseOf(0, 0) + x.count(0));
        }
    }
}
