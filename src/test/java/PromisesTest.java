/** Each promise of the document by hand: ordinary inputs, the edges that it names, wrong inputs. */
public final class PromisesTest extends ByHand {
    public static void main(String[] args) {
        constantsAndNew();
        cell();
        drop();
        set();
        heat();
        of();
        takenAndKin();
        endAndRule();
        tAndLine();
        jointAndFlow();
        stableAndNeed();
        sumAndMost();
        step();
        thenCall();
        spent();
        rises();
        calm();
        pulse();
        pulseOfAndHush();
        steadyHeats();
        hottestLayIsSteady();
        buried();
        tells();
        film();
        drawn();
        feedCall();
        textFaults();
        textClauses();
        imageAndBack();
        load();
        count();
        sheetAndPut();
        copy();
        endOf("PromisesTest");
    }

    private static void constantsAndNew() {
        due(1, "NONE", BarSteps.NONE, -1);
        due(1, "BAD", BarSteps.BAD, -2);
        due(1, "STATE", BarSteps.STATE, -3);
        due(1, "FULL", BarSteps.FULL, -4);
        due(1, "NO", BarSteps.NO, NO);
        BarSteps x = new BarSteps();
        for (int what = 0; what <= 5; what++) {
            due(1, "count of a new object", x.count(what), 0);
        }
        due(1, "its left end", x.end(0, 5), -1);
        due(1, "its right end", x.end(1, 5), -1);
        due(1, "its FINE", x.rule(0, 5), 4);
        due(1, "its AIR", x.rule(1, 5), 0);
        for (int sheet = 0; sheet < 4; sheet++) {
            due(1, "its sheets", x.put(sheet, 0, 0), -11);
        }
        BarSteps other = bar(0, 1, 1, 1);
        due(1, "two objects share nothing", x.count(0) * 10 + other.count(0), 1);
    }

    private static void cell() {
        BarSteps x = new BarSteps();
        due(2, "the first cell", x.cell(0, 1, 1, 0), 0);
        due(2, "the second", x.cell(5, 9, 4, 999), 1);
        int[][] bad = {{-1, 1, 1, 0}, {6, 1, 1, 0}, {0, 0, 1, 0}, {0, 10, 1, 0}, {0, 1, 0, 0}, {0, 1, 5, 0},
            {0, 1, 1, -1}, {0, 1, 1, 1000}, {LEAST, 1, 1, 0}, {0, GREATEST, 1, 0}};
        for (int[] b : bad) {
            due(2, "a bad cell", x.cell(b[0], b[1], b[2], b[3]), -2);
        }
        due(2, "how many came", x.count(0), 2);
        dueParts(2, "T as it comes", t(x, 1), 999, 1);
        due(2, "SOURCE as it comes", x.of(1, 3), 0);
        for (int i = 2; i < 8; i++) {
            due(2, "more cells", x.cell(0, 1, 1, 0), i);
        }
        due(2, "the ninth", x.cell(0, 1, 1, 0), -4);
        due(2, "BAD is ahead of FULL", x.cell(6, 1, 1, 0), -2);
        x.set(7, 3, 4);
        x.drop();
        x.cell(0, 1, 1, 0);
        due(2, "SOURCE of one that comes where one was", x.of(7, 3), 0);
    }

    private static void drop() {
        BarSteps x = new BarSteps();
        due(3, "drop without cells", x.drop(), -3);
        x = bar(0, 1, 1, 0, 0, 1, 1, 1);
        x.pulse(1, 1, 1);
        x.pulse(0, 2, 2);
        x.pulse(1, 3, 3);
        due(3, "drop", x.drop(), 1);
        due(3, "pulses left", x.count(1), 1);
        due(3, "the pulse that is left", x.pulseOf(0, 2), 2);
        due(3, "the dropped cell", x.of(1, 0), -1000);
        x = bar(0, 1, 1, 0, 0, 1, 1, 1);
        x.step(1);
        due(3, "the line", x.line(), 4);
        due(3, "drop", x.drop(), 1);
        due(3, "the line of the cell that is left", x.line(), 4);
        due(3, "drop", x.drop(), 0);
        due(3, "the line without cells", x.line(), 1);
        due(3, "drop again", x.drop(), -3);
    }

    private static void set() {
        BarSteps x = bar(3, 5, 1, 7);
        x.set(0, 3, -9);
        due(4, "K was", x.set(0, 0, 9), 5);
        due(4, "C was", x.set(0, 1, 4), 1);
        due(4, "KIND was", x.set(0, 2, 4), 3);
        due(4, "SOURCE was", x.set(0, 3, 9), -9);
        due(4, "K", x.of(0, 1), 9);
        due(4, "C", x.of(0, 2), 4);
        due(4, "KIND", x.of(0, 0), 4);
        due(4, "SOURCE", x.of(0, 3), 9);
        due(4, "SIDE is made anew", x.of(0, 4), 1);
        due(4, "HOLDS is made anew", x.of(0, 5), 8);
        due(4, "FIN is made anew", x.of(0, 6), 0);
        due(4, "MADE is anew", x.of(0, 7), 1357);
        dueParts(4, "T stays", t(x, 0), 7, 1);
        int[][] bad = {{1, 0, 1}, {-1, 0, 1}, {0, -1, 1}, {0, 4, 1}, {0, 0, 0}, {0, 0, 10}, {0, 1, 0}, {0, 1, 5},
            {0, 2, -1}, {0, 2, 6}, {0, 3, -10}, {0, 3, 10}, {LEAST, 0, 1}, {0, GREATEST, 1}};
        for (int[] b : bad) {
            due(4, "bad set", x.set(b[0], b[1], b[2]), -1000);
        }
        due(4, "the least K", x.set(0, 0, 1), 9);
        due(4, "the same again", x.set(0, 0, 1), 1);
        due(4, "the least C", x.set(0, 1, 1), 4);
        due(4, "the least KIND", x.set(0, 2, 0), 4);
        due(4, "the greatest KIND", x.set(0, 2, 5), 0);
        due(4, "the least SOURCE", x.set(0, 3, -9), 9);
    }

    private static void heat() {
        BarSteps x = bar(0, 1, 1, 0, 0, 1, 1, 1);
        x.step(1);
        due(5, "heat", x.heat(0, 999), 1);
        dueParts(5, "T", t(x, 0), 999, 1);
        dueParts(5, "T of the other", t(x, 1), 3, 4);
        due(5, "heat", x.heat(1, 0), 1);
        due(5, "the line is the least again", x.line(), 1);
        int[][] bad = {{-1, 0}, {2, 0}, {0, -1}, {0, 1000}, {LEAST, 0}, {0, GREATEST}};
        for (int[] b : bad) {
            due(5, "bad heat", x.heat(b[0], b[1]), -2);
        }
        dueParts(5, "T behind bad ones", t(x, 0), 999, 1);
    }

    private static void of() {
        int[][] want = {
            // KIND, K, C, SOURCE, SIDE, HOLDS, FIN, MADE
            {0, 7, 1, 0, 7, 1, 0, 132}, {1, 7, 1, 0, 4, 1, 0, 1324}, {2, 7, 1, 0, 7, 2, 0, 1325},
            {3, 7, 1, 0, 4, 1, 1, 13246}, {4, 7, 1, 0, 3, 2, 0, 13257}, {5, 7, 1, 0, 2, 1, 0, 13248},
            {5, 1, 3, 0, 1, 3, 0, 1348}, {4, 1, 4, 0, 9, 8, 0, 1357}};
        BarSteps x = new BarSteps();
        for (int[] w : want) {
            x.cell(w[0], w[1], w[2], 0);
        }
        for (int i = 0; i < want.length; i++) {
            for (int what = 0; what < 8; what++) {
                due(6, "of(" + i + ", " + what + ")", x.of(i, what), want[i][what]);
            }
        }
        due(6, "no such what", x.of(0, 8), -1000);
        due(6, "no such what", x.of(0, -1), -1000);
        due(6, "no such cell", x.of(8, 0), -1000);
        due(6, "no such cell", x.of(-1, 0), -1000);
        BarSteps clad = bar(1, 1, 1, 0, 1, 2, 1, 0, 1, 9, 1, 0, 5, 2, 1, 0, 5, 3, 1, 0);
        int[] sides = {1, 1, 5, 1, 2};
        for (int i = 0; i < sides.length; i++) {
            due(6, "SIDE of a clad one", clad.of(i, 4), sides[i]);
        }
    }

    private static void takenAndKin() {
        int[] lines = {1, 3, 5, 11, 21, 35};
        BarSteps x = new BarSteps();
        for (int kind = 0; kind < 6; kind++) {
            x.cell(kind, kind + 2, 1, 0);
            due(8, "kin(" + kind + ")", x.kin(kind), lines[kind]);
            for (int k = 0; k < 6; k++) {
                boolean is = (lines[kind] >> k & 1) == 1;
                due(7, "taken(" + kind + ", " + k + ")", x.taken(kind, k), is ? kind + 2 : -13);
            }
        }
        due(7, "no such cell", x.taken(6, 0), -2);
        due(7, "no such cell", x.taken(-1, 0), -2);
        due(7, "no such kind", x.taken(0, 6), -2);
        due(7, "no such kind", x.taken(0, -1), -2);
        due(8, "no such kind", x.kin(6), -2);
        due(8, "no such kind", x.kin(-1), -2);
        due(8, "no such kind", x.kin(GREATEST), -2);
    }

    private static void endAndRule() {
        BarSteps x = new BarSteps();
        due(9, "left", x.end(0, 0), -1);
        due(9, "left", x.end(0, 999), 0);
        due(9, "right", x.end(1, 7), -1);
        due(9, "left", x.end(0, -1), 999);
        due(9, "right", x.end(1, -1), 7);
        int[][] bad = {{-1, 0}, {2, 0}, {0, -2}, {0, 1000}, {1, LEAST}, {GREATEST, 0}};
        for (int[] b : bad) {
            due(9, "bad end", x.end(b[0], b[1]), -1000);
        }
        due(9, "left stays", x.end(0, 1), -1);
        due(10, "FINE", x.rule(0, 20), 4);
        due(10, "FINE", x.rule(0, 1), 20);
        due(10, "AIR", x.rule(1, 999), 0);
        due(10, "AIR", x.rule(1, 0), 999);
        int[][] worse = {{-1, 1}, {2, 1}, {0, 0}, {0, 21}, {1, -1}, {1, 1000}, {0, LEAST}};
        for (int[] b : worse) {
            due(10, "bad rule", x.rule(b[0], b[1]), -1000);
        }
        due(10, "FINE stays", x.rule(0, 2), 1);
        due(10, "AIR stays", x.rule(1, 2), 0);
    }

    private static void tAndLine() {
        BarSteps x = new BarSteps();
        due(12, "the line without cells", x.line(), 1);
        due(11, "t without cells", x.t(0, 0), NO);
        // By 4 and by 6: 10 - 10/4 and 0 + 10/(3 * 4)
        x = bar(0, 1, 1, 10, 0, 1, 3, 0);
        x.step(1);
        dueParts(11, "T", t(x, 0), 15, 2);
        dueParts(11, "T", t(x, 1), 5, 6);
        due(12, "the line", x.line(), 6);
        x.pulse(1, 1, -99);
        x.step(1);
        due(11, "the sign is above", x.t(1, 0) < 0 && x.t(1, 1) > 0 ? 1 : 0, 1);
        x = bar(0, 1, 1, 0);
        dueParts(11, "0", t(x, 0), 0, 1);
        due(11, "no such cell", x.t(1, 0), NO);
        due(11, "no such cell", x.t(-1, 0), NO);
        due(11, "no such part", x.t(0, 2), NO);
        due(11, "no such part", x.t(0, -1), NO);
    }

    private static void jointAndFlow() {
        BarSteps x = new BarSteps();
        x.end(0, 5);
        due(13, "without cells", x.joint(-1), -2);
        due(13, "without cells", x.joint(0), -2);
        due(14, "without cells", x.flow(-1, 0), NO);
        x = bar(0, 7, 1, 10, 0, 3, 1, 4);
        due(13, "the left end, shut", x.joint(-1), 0);
        due(13, "between", x.joint(0), 3);
        due(13, "the right end, shut", x.joint(1), 0);
        dueParts(14, "the left end, shut", flow(x, -1), 0, 1);
        dueParts(14, "between", flow(x, 0), 18, 1);
        dueParts(14, "the right end, shut", flow(x, 1), 0, 1);
        x.end(0, 0);
        x.end(1, 9);
        due(13, "the left end, held", x.joint(-1), 7);
        due(13, "the right end, held", x.joint(1), 3);
        dueParts(14, "the left end, held", flow(x, -1), -70, 1);
        dueParts(14, "the right end, held", flow(x, 1), -15, 1);
        due(13, "no such joint", x.joint(2), -2);
        due(13, "no such joint", x.joint(-2), -2);
        due(13, "no such joint", x.joint(GREATEST), -2);
        due(14, "no such joint", x.flow(2, 0), NO);
        due(14, "no such joint", x.flow(-2, 0), NO);
        due(14, "no such part", x.flow(0, 2), NO);
        due(14, "no such part", x.flow(0, -1), NO);
        x = bar(0, 2, 1, 1, 0, 2, 3, 0);
        x.step(1);
        // 1/2 and 1/6
        dueParts(14, "in lowest terms", flow(x, 0), 2, 3);
        x = bar(0, 2, 1, 5);
        x.end(0, 7);
        x.end(1, 1);
        dueParts(14, "one cell, left", flow(x, -1), 4, 1);
        dueParts(14, "one cell, right", flow(x, 0), 8, 1);
    }

    private static void stableAndNeed() {
        BarSteps x = new BarSteps();
        due(15, "without cells", x.stable(-1), 1);
        due(15, "without cells", x.stable(0), -2);
        due(16, "without cells", x.need(), 1);
        x = bar(0, 1, 1, 0);
        due(16, "a lone cell", x.need(), 1);
        // LEADS: 2 at the left end, 2 between, 0; the second has a FIN
        x = bar(0, 2, 1, 0, 3, 4, 2, 0);
        x.end(0, 5);
        due(15, "just so", x.stable(0), 1);
        due(15, "all", x.stable(-1), 1);
        due(16, "need", x.need(), 4);
        x.rule(0, 3);
        due(15, "too coarse", x.stable(0), 0);
        due(15, "the other", x.stable(1), 1);
        due(15, "all", x.stable(-1), 0);
        x.rule(0, 1);
        due(15, "3 above 2 times 1", x.stable(1), 0);
        due(15, "no such cell", x.stable(2), -2);
        due(15, "no such cell", x.stable(-2), -2);
        x.end(0, -1);
        due(16, "rounded up: 3 by 2", x.need(), 2);
        x = bar(4, 1, 4, 0);
        x.end(0, 1);
        x.end(1, 1);
        due(16, "18 by 8", x.need(), 3);
    }

    private static void sumAndMost() {
        BarSteps x = new BarSteps();
        dueParts(17, "without cells", sum(x), 0, 1);
        due(17, "no such part", x.sum(2), NO);
        due(17, "no such part", x.sum(-1), NO);
        due(18, "without cells", x.most(0), -1);
        due(18, "without cells", x.most(1), -1);
        due(18, "no such what", x.most(2), -2);
        due(18, "no such what", x.most(-1), -2);
        x = bar(0, 1, 1, 5, 2, 1, 3, 7, 0, 1, 1, 7, 0, 1, 1, 5);
        dueParts(17, "HOLDS times T", sum(x), 59, 1);
        due(18, "the first greatest", x.most(0), 1);
        due(18, "the first least", x.most(1), 0);
        due(18, "no such what", x.most(2), -2);
        x = bar(0, 1, 3, 1, 0, 1, 1, 0);
        x.heat(0, 0);
        x.end(0, 1);
        x.step(1);
        // 1/12 in a cell that holds 3
        dueParts(17, "in lowest terms", sum(x), 1, 4);
    }

    private static void step() {
        BarSteps x = new BarSteps();
        due(19, "without cells", x.step(1), -3);
        due(19, "BAD is ahead of STATE", x.step(0), -2);
        x = bar(0, 4, 1, 60, 0, 2, 1, 0);
        x.rule(0, 8);
        x.end(0, 10);
        due(19, "a step", x.step(1), 1);
        dueParts(19, "T", t(x, 0), 20, 1);
        dueParts(19, "T", t(x, 1), 15, 1);
        due(19, "a step", x.step(1), 1);
        dueParts(19, "T", t(x, 0), 55, 4);
        dueParts(19, "T", t(x, 1), 65, 4);
        due(19, "no step", x.step(0), -2);
        due(19, "too many", x.step(41), -2);
        due(19, "too many", x.step(LEAST), -2);
        // AIR and SOURCE: 0 + (1 * (30 - 0) + 6) / (2 * 3)
        x = bar(3, 1, 2, 0);
        x.rule(0, 3);
        x.rule(1, 30);
        x.set(0, 3, 6);
        x.step(1);
        dueParts(19, "T by air and source", t(x, 0), 6, 1);
        // A cell that takes a fourth of what is missing: 4^n is the line, 4^19 is 274877906944
        x = bar(3, 1, 1, 0);
        x.rule(1, 1);
        due(19, "how many were done", x.step(40), 19);
        due(19, "the line", x.line(), 274877906944L);
        x.pulse(0, 5, 1);
        due(19, "the next is spent", x.step(1), 0);
        due(19, "nothing of it is done", x.line(), 274877906944L);
        due(19, "nor of its pulses", x.pulseOf(0, 1), 5);
        x.heat(0, 1);
        due(19, "at rest till the pulse", x.step(4), 4);
        due(19, "at rest till the pulse", x.line(), 1);
        due(19, "the pulse, then 19 more", x.step(40), 20);
        due(19, "the pulse came", x.count(1), 0);
        x.heat(0, 1);
        due(19, "at rest", x.step(40), 40);
        // By a tenth: the line is 10^n, and just at the bound it is not above it
        x = bar(3, 1, 1, 0);
        x.rule(0, 10);
        x.rule(1, 1);
        due(19, "up to the bound", x.step(40), 12);
        due(19, "the line at the bound", x.line(), 1000000000000L);
        long bound = 1000000000000L;
        dueParts(19, "T at the bound", t(reaching(bound), 0), bound, 1);
        dueParts(19, "T at the bound", t(reaching(-bound), 0), -bound, 1);
        due(19, "one more is spent", reaching(bound + 1).count(1), 1);
        due(19, "one less is spent", reaching(-bound - 1).count(1), 1);
    }

    private static void thenCall() {
        BarSteps x = bar(0, 4, 1, 60, 0, 2, 1, 0);
        x.rule(0, 8);
        x.end(0, 10);
        x.pulse(1, 2, 3);
        dueParts(20, "now", then(x, 0, 0), 60, 1);
        dueParts(20, "behind one", then(x, 1, 0), 20, 1);
        dueParts(20, "behind two", then(x, 2, 0), 55, 4);
        dueParts(20, "with a pulse", then(x, 2, 1), 77, 4);
        dueParts(20, "nothing is kept", t(x, 0), 60, 1);
        due(20, "nor of pulses", x.pulseOf(0, 1), 2);
        due(20, "no such cell", x.then(1, 2, 0), NO);
        due(20, "no such cell", x.then(1, -1, 0), NO);
        due(20, "no such part", x.then(1, 0, 2), NO);
        due(20, "too many", x.then(41, 0, 0), NO);
        due(20, "too few", x.then(-1, 0, 0), NO);
        x = bar(3, 1, 1, 0);
        x.rule(1, 1);
        due(20, "the last one", x.then(19, 0, 1), 274877906944L);
        due(20, "a spent one", x.then(20, 0, 0), NO);
        due(20, "a spent one", x.then(40, 0, 0), NO);
        x.heat(0, 1);
        dueParts(20, "40", then(x, 40, 0), 1, 1);
    }

    private static void spent() {
        BarSteps x = new BarSteps();
        due(21, "without cells", x.spent(0), -1);
        due(21, "without cells", x.spent(1), -1);
        due(21, "no such what", x.spent(2), -2);
        due(21, "no such what", x.spent(-1), -2);
        x = bar(3, 1, 1, 0);
        x.rule(1, 1);
        due(21, "by the line", x.spent(0), 20);
        due(21, "its LARGE", x.spent(1), -1);
        x.heat(0, 1);
        due(21, "at rest none is", x.spent(0), -1);
        due(21, "at rest none is", x.spent(1), -1);
        // By a half: 2^39 is no more than the bound, 2^40 is
        x = bar(3, 1, 2, 0);
        x.rule(0, 1);
        x.rule(1, 1);
        due(21, "the last of 40", x.spent(0), 40);
        due(21, "its LARGE", x.spent(1), -1);
        due(20, "39 are not spent", x.then(39, 0, 1), 549755813888L);
        due(20, "40 are", x.then(40, 0, 1), NO);
        x.step(1);
        due(21, "one sooner", x.spent(0), 39);
        // HOLDS times FINE is 1 and nothing is stable, so heats grow without a line
        x = bar(0, 1, 1, 0, 0, 9, 1, 0, 0, 9, 1, 1);
        x.rule(0, 1);
        due(21, "by a heat", x.spent(0), 10);
        due(21, "its cell", x.spent(1), 1);
        due(21, "the line of what is done", x.step(40) * 10 + x.line(), 91);
        due(21, "the next one", x.spent(0), 1);
        // T told may be larger, till a step is behind it
        x = bar(3, 1, 1, 0, 0, 1, 1, 0);
        x.rule(1, 1);
        x.step(15);
        long line = x.line();
        due(21, "a told heat may be large", x.heat(1, 999) == 1 && x.line() <= line ? 1 : 0, 1);
    }

    private static void rises() {
        BarSteps x = new BarSteps();
        due(22, "without cells", x.rises(1), -3);
        due(22, "BAD is ahead of STATE", x.rises(0), -2);
        x = bar(0, 1, 1, 5, 0, 1, 1, 5);
        due(22, "at rest", x.rises(40), -1);
        x.pulse(0, 3, 1);
        due(22, "by a pulse", x.rises(40), 3);
        due(22, "within fewer", x.rises(2), -1);
        due(22, "within just as many", x.rises(3), 3);
        due(22, "nothing is kept", x.pulseOf(0, 1), 3);
        due(22, "too many", x.rises(41), -2);
        due(22, "too few", x.rises(-1), -2);
        // It falls by a fourth each step; the 20th is spent by its line, the 17th with a 99 by its heat
        x = bar(3, 1, 1, 1);
        x.pulse(0, 20, 99);
        due(22, "spent ahead of that", x.rises(40), -1);
        x.hush(0);
        x.pulse(0, 17, 99);
        due(22, "spent by what comes", x.rises(40), -1);
        due(22, "and that is its heat", x.spent(1), 0);
        x.hush(0);
        x.pulse(0, 16, 99);
        due(22, "not spent ahead of that", x.rises(40), 16);
        // Ahead: 3 of one, 2 of another; it is not the same cell that rises
        x = bar(3, 1, 4, 0);
        x.rule(0, 20);
        x.rule(1, 1);
        due(22, "by an 80th", x.rises(1), 1);
        x.rule(1, 0);
        x.heat(0, 1);
        x.pulse(0, 4, 1);
        due(22, "it falls by an 80th each, then rises", x.rises(40), 4);
        x = bar(0, 1, 1, 3, 0, 1, 1, 3);
        x.set(1, 3, 1);
        due(22, "by a source", x.rises(1), 1);
    }

    private static void calm() {
        BarSteps x = new BarSteps();
        due(23, "without cells", x.calm(0), -3);
        due(23, "BAD is ahead of STATE", x.calm(1000), -2);
        x = bar(0, 1, 1, 5);
        due(23, "one cell", x.calm(0), 0);
        due(23, "no such v", x.calm(-1), -2);
        // The difference is halved by each step: 64, 32, 16, ..
        x = bar(0, 1, 1, 64, 0, 1, 1, 0);
        due(23, "now", x.calm(64), 0);
        due(23, "behind one", x.calm(63), 1);
        due(23, "just so", x.calm(16), 2);
        due(23, "behind six", x.calm(1), 6);
        due(23, "never: the steps are spent ahead of that", x.calm(0), -1);
        dueParts(23, "nothing is kept", t(x, 0), 64, 1);
        x = bar(0, 1, 1, 5, 0, 1, 1, 5);
        x.pulse(0, 20, 1);
        due(23, "calm already", x.calm(0), 0);
        // 768 at the end of seven that hand on a half to either side: spread to 7 behind 40 steps
        x = bar(0, 1, 1, 768, 0, 1, 1, 0, 0, 1, 1, 0, 0, 1, 1, 0, 0, 1, 1, 0, 0, 1, 1, 0, 0, 1, 1, 0);
        x.rule(0, 2);
        due(23, "behind 40", x.calm(7), 40);
        due(23, "not within 40", x.calm(6), -1);
        // FINE 1: they swap heats each step and never meet
        x = bar(0, 1, 1, 1, 0, 1, 1, 0);
        x.rule(0, 1);
        due(23, "not within 40", x.calm(0), -1);
    }

    private static void pulse() {
        BarSteps x = new BarSteps();
        due(24, "without cells", x.pulse(0, 1, 1), -2);
        x = bar(0, 1, 1, 0, 0, 1, 1, 0);
        due(24, "the first", x.pulse(0, 1, -99), 1);
        due(24, "the second", x.pulse(1, 20, 99), 2);
        int[][] bad = {{2, 1, 1}, {-1, 1, 1}, {0, 0, 1}, {0, 21, 1}, {0, 1, 100}, {0, 1, -100}, {0, LEAST, 1}};
        for (int[] b : bad) {
            due(24, "bad pulse", x.pulse(b[0], b[1], b[2]), -2);
        }
        for (int i = 3; i <= 12; i++) {
            due(24, "more", x.pulse(0, 1, 9), i);
        }
        due(24, "the thirteenth", x.pulse(0, 1, 1), -4);
        due(24, "BAD is ahead of FULL", x.pulse(0, 0, 1), -2);
        x.step(1);
        due(24, "those that were due came", x.count(1), 1);
        dueParts(24, "T behind them", t(x, 0), -9, 1);
        due(24, "the other is due one sooner", x.pulseOf(0, 1), 19);
    }

    private static void pulseOfAndHush() {
        BarSteps x = bar(0, 1, 1, 0, 0, 1, 1, 0);
        x.pulse(0, 1, 11);
        x.pulse(1, 2, 22);
        x.pulse(0, 3, 33);
        x.pulse(1, 4, -44);
        int[][] want = {{0, 1, 11}, {1, 2, 22}, {0, 3, 33}, {1, 4, -44}};
        for (int i = 0; i < 4; i++) {
            for (int what = 0; what < 3; what++) {
                due(25, "pulseOf", x.pulseOf(i, what), want[i][what]);
            }
        }
        due(25, "no such pulse", x.pulseOf(4, 0), -1000);
        due(25, "no such pulse", x.pulseOf(-1, 0), -1000);
        due(25, "no such what", x.pulseOf(0, 3), -1000);
        due(25, "no such what", x.pulseOf(0, -1), -1000);
        due(26, "hush", x.hush(0), 2);
        due(26, "those behind move up", x.pulseOf(0, 2), 22);
        due(26, "those behind move up", x.pulseOf(1, 2), -44);
        due(26, "how many are left", x.count(1), 2);
        due(26, "hush again", x.hush(0), 0);
        due(26, "no such cell", x.hush(2), -2);
        due(26, "no such cell", x.hush(-1), -2);
        x.step(2);
        due(25, "one that came is none any more", x.pulseOf(0, 2), -44);
    }

    private static void steadyHeats() {
        BarSteps x = new BarSteps();
        x.end(0, 5);
        due(27, "without cells", x.steady(0, 0), NO);
        due(28, "without cells", x.steadyFlow(-1, 0), NO);
        x = bar(0, 1, 1, 9, 0, 1, 1, 9);
        due(27, "both ends shut", x.steady(0, 0), NO);
        due(28, "both ends shut", x.steadyFlow(0, 0), NO);
        x.end(0, 0);
        x.end(1, 1);
        dueParts(27, "a line from 0 to 1", steady(x, 0), 1, 3);
        dueParts(27, "a line from 0 to 1", steady(x, 1), 2, 3);
        for (int i = -1; i < 2; i++) {
            dueParts(28, "the same flow", steadyFlow(x, i), -1, 3);
        }
        x.set(0, 1, 4);
        x.rule(0, 20);
        x.pulse(0, 1, 50);
        dueParts(27, "FINE, HOLDS, pulses don't matter", steady(x, 0), 1, 3);
        due(27, "no such cell", x.steady(2, 0), NO);
        due(27, "no such cell", x.steady(-1, 0), NO);
        due(27, "no such part", x.steady(0, 2), NO);
        due(28, "no such joint", x.steadyFlow(2, 0), NO);
        due(28, "no such joint", x.steadyFlow(-2, 0), NO);
        due(28, "no such part", x.steadyFlow(0, -1), NO);
        x = bar(0, 1, 1, 0, 3, 1, 1, 0);
        x.rule(1, 10);
        x.set(0, 3, -3);
        dueParts(27, "a fin alone", steady(x, 1), 7, 1);
        dueParts(27, "a source that cools", steady(x, 0), 4, 1);
        dueParts(28, "from fin to source", steadyFlow(x, 0), -3, 1);
        dueParts(28, "an end that is shut", steadyFlow(x, -1), 0, 1);
        x = bar(0, 3, 1, 0);
        x.end(1, 0);
        x.set(0, 3, -1);
        dueParts(27, "below 0", steady(x, 0), -1, 3);
        dueParts(28, "at the end", steadyFlow(x, 0), -1, 1);
        // As large as it gets: 8 cells of SIDE 9, both ends held at 999, all sources at 9
        x = new BarSteps();
        for (int i = 0; i < 8; i++) {
            x.cell(0, 9, 1, 0);
            x.set(i, 3, 9);
        }
        x.end(0, 999);
        x.end(1, 999);
        for (int i = 0; i < 8; i++) {
            dueParts(27, "999 and (i + 1) (8 - i) / 2", steady(x, i), 999 + (i + 1) * (8 - i) / 2, 1);
        }
    }

    private static void hottestLayIsSteady() {
        BarSteps x = new BarSteps();
        due(29, "without cells", x.hottest(), -1);
        due(30, "without cells", x.lay(), -3);
        due(31, "without cells", x.isSteady(), 1);
        x = bar(0, 1, 1, 9, 0, 1, 1, 9, 0, 1, 1, 9);
        due(29, "both ends shut", x.hottest(), -1);
        due(30, "both ends shut", x.lay(), -3);
        due(31, "all alike", x.isSteady(), 1);
        x.set(0, 3, 1);
        due(31, "with a source", x.isSteady(), 0);
        x.set(0, 3, 0);
        x.heat(2, 8);
        due(31, "not alike", x.isSteady(), 0);
        x.end(1, 4);
        due(29, "of like ones the first", x.hottest(), 0);
        x.end(0, 1);
        due(29, "towards the hotter end", x.hottest(), 2);
        x.pulse(1, 2, 5);
        due(30, "lay", x.lay(), 1);
        dueParts(30, "T", t(x, 0), 7, 4);
        dueParts(30, "T", t(x, 1), 5, 2);
        dueParts(30, "T", t(x, 2), 13, 4);
        due(30, "the line", x.line(), 4);
        due(30, "pulses stay", x.count(1), 1);
        due(31, "pulses aside", x.isSteady(), 1);
        x.step(1);
        due(31, "behind a step", x.isSteady(), 1);
        x.step(1);
        due(31, "the pulse came", x.isSteady(), 0);
        x = bar(3, 1, 1, 4);
        x.rule(1, 4);
        due(31, "as hot as the air", x.isSteady(), 1);
        x.rule(1, 5);
        due(31, "colder than the air", x.isSteady(), 0);
        // Two that trade heat by a source and a sink, both ends shut
        x = bar(0, 1, 1, 5, 0, 1, 1, 2);
        x.set(0, 3, 3);
        x.set(1, 3, -3);
        due(31, "no steady heats, but none changes", x.isSteady(), 1);
        due(30, "there are none", x.lay(), -3);
    }

    private static void buried() {
        BarSteps x = new BarSteps();
        due(32, "missing", x.buried(0, 0), -11);
        due(32, "no such sheet", x.buried(4, 0), -2);
        due(32, "no such sheet", x.buried(-1, 0), -2);
        due(32, "no such what, ahead of missing", x.buried(0, 2), -2);
        x.sheet(0, 0, 0);
        due(32, "without cells", x.buried(0, 0), -1);
        due(32, "without cells", x.buried(0, 1), 0);
        x.sheet(0, 0, 1);
        due(32, "tells more than there are", x.buried(0, 0), -2);
        x = bar(0, 1, 1, 0);
        row(x, 0, 0, 9);
        due(32, "one cell, no steady heats", x.buried(0, 0), -3);
        x.end(0, 0);
        due(32, "the greatest source", x.buried(0, 0), 18);
        due(32, "the greatest source", x.buried(0, 1), 1);
        row(x, 0, 0, -9);
        due(32, "the least source", x.buried(0, 0), 0);
        due(32, "the least source", x.buried(0, 1), 1);
        row(x, 0, 0, 10);
        due(32, "a greater one", x.buried(0, 1), 0);
        // Leads 1 everywhere, ends at 0: T0 is (2 S0 + S1) / 3, T1 is (S0 + 2 S1) / 3
        x = bar(0, 1, 1, 0, 0, 1, 1, 0);
        x.sheet(1, 1, 0);
        due(32, "no steady heats", x.buried(1, 0), -3);
        x.end(0, 0);
        x.end(1, 0);
        due(32, "told none: the first", x.buried(1, 0), 0);
        due(32, "told none: all", x.buried(1, 1), 38);
        x.set(1, 3, -3);
        // 6 at 0: T0 is 3, T1 is 0; with 5 at 0: 7/3 and -1/3
        row(x, 0, 1, 3, 0);
        due(32, "6 at 0", x.buried(0, 0), 15);
        due(32, "just that, as 7 makes 11/3, 1/3 too", x.buried(0, 1), 2);
        row(x, 0, 1, 2, -1);
        due(32, "5 at 0: rounded down", x.buried(0, 0), 14);
        due(32, "just one", x.buried(0, 1), 1);
        row(x, 0, 0, -1, -2);
        // By 0 or 1 at 0, by -3 or -2 at 1: as it is, it counts for each of the cells
        due(32, "as it is", x.buried(0, 0), 9);
        due(32, "by either", x.buried(0, 1), 4);
        // S0 is 0, so 6 at 1 makes 2 and 4
        row(x, 0, 0, 2, 4);
        due(32, "at the second cell", x.buried(0, 0), 115);
        row(x, 0, 0, 99);
        due(32, "none", x.buried(0, 0), -1);
        due(32, "none", x.buried(0, 1), 0);
        row(x, 0, 0, 2);
        // 2 <= (2 S0 - 3) / 3 < 3: S0 is 5
        due(32, "told of the first cell alone", x.buried(0, 0), 14);
        row(x, 0, 0, 1);
        // S0 is 3 or 4; S1 is 3 .. 5
        due(32, "how many", x.buried(0, 1), 5);
        due(32, "nothing is kept", x.of(0, 3) * 100 + x.of(1, 3), -3);
        row(x, 0, 0, 1, 2, 3);
        due(32, "tells more than there are", x.buried(0, 0), -2);
    }

    private static void tells() {
        BarSteps x = bar(0, 4, 1, 60, 0, 2, 1, 0);
        due(33, "missing", x.tells(0, 0, 0), -11);
        due(33, "no such sheet", x.tells(4, 0, 0), -2);
        due(33, "no such cell, ahead of missing", x.tells(0, 2, 0), -2);
        due(33, "no such what, ahead of missing", x.tells(0, 0, 2), -2);
        x.rule(0, 8);
        x.end(0, 10);
        // 60, 20, 13 3/4
        row(x, 0, 1, 60, 20, 13);
        due(33, "all so", x.tells(0, 0, 0), -1);
        due(33, "just by PLAIN", x.tells(0, 0, 1), 1);
        row(x, 0, 0, 60, 20, 14);
        due(33, "not rounded up", x.tells(0, 0, 0), 2);
        row(x, 0, 0, 59, 20, 13);
        due(33, "now", x.tells(0, 0, 0), 0);
        row(x, 0, 0, 60);
        due(33, "now alone", x.tells(0, 0, 0), -1);
        due(33, "by all kinds", x.tells(0, 0, 1), 63);
        x.sheet(0, 0, 0);
        due(33, "a row that tells none", x.tells(0, 0, 0), -1);
        due(33, "a row that tells none", x.tells(0, 0, 1), 63);
        // CLAD: SIDE 2, so 60 + (2 (10 - 60) - 2 60) / 8; LINED and FINNED: as CLAD (AIR 60)
        x.rule(1, 60);
        row(x, 0, 0, 60, 32);
        due(33, "by CLAD, FINNED, LINED", x.tells(0, 0, 1), 42);
        due(33, "the kind stays", x.of(0, 0), 0);
        // DENSE: holds 2, so 60 - 320 / 16
        row(x, 0, 0, 60, 40);
        due(33, "by DENSE", x.tells(0, 0, 1), 4);
        x.sheet(0, 0, 11);
        due(33, "tells more than 10", x.tells(0, 0, 0), -2);
        x.sheet(0, 0, 10);
        due(33, "tells 10", x.tells(0, 0, 0), 0);
        x = bar(0, 1, 1, 0);
        x.pulse(0, 1, -5);
        row(x, 0, 0, 0, -5);
        due(33, "with pulses", x.tells(0, 0, 0), -1);
        // By the line: each step makes it 160 times as large, so the sixth is spent
        x = bar(3, 1, 4, 0, 2, 1, 4, 0);
        x.rule(0, 20);
        x.rule(1, 1);
        int steps = x.spent(0);
        x.sheet(0, 1, steps + 1);
        due(33, "one whose step is spent", x.tells(0, 1, 0), steps);
        x.sheet(0, 1, steps);
        due(33, "all ahead of that", x.tells(0, 1, 0), -1);
    }

    private static void film() {
        BarSteps x = bar(0, 4, 1, 60, 0, 2, 1, 0);
        x.rule(0, 8);
        x.end(0, 10);
        due(34, "film", x.film(2, 0, 3), 3);
        due(34, "what it tells", x.tells(2, 0, 0), -1);
        due(34, "no more than that", x.put(2, 3, 0), -12);
        due(34, "it is of ints", x.put(2, 0, 70000) == 1 && x.load(2, 0, 0, 0) == -13 ? 1 : 0, 1);
        dueParts(34, "nothing else is kept", t(x, 0), 60, 1);
        due(34, "none of them", x.film(2, 0, 0), 0);
        due(34, "an empty row", x.put(2, 0, 0), -12);
        due(34, "ten", x.film(2, 0, 10), 10);
        due(34, "eleven", x.film(2, 0, 11), -2);
        due(34, "below 0", x.film(2, 0, -1), -2);
        due(34, "no such cell", x.film(2, 2, 1), -2);
        due(34, "no such sheet", x.film(4, 0, 1), -2);
        due(34, "no such sheet", x.film(-1, 0, 1), -2);
        // 999 and 11 times 99 is told as 999: as of a cell that stays at 999
        x = bar(0, 1, 1, 999, 0, 1, 1, 999);
        for (int i = 0; i < 11; i++) {
            x.pulse(0, 1, 99);
        }
        x.film(0, 0, 2);
        due(34, "what was more is 999: otherwise than T", x.tells(0, 0, 0), 1);
        x.hush(0);
        due(34, "what was more is 999", x.tells(0, 0, 0), -1);
        // 12 times -99 is told as -999
        x = bar(0, 1, 1, 0);
        for (int i = 0; i < 12; i++) {
            x.pulse(0, 1, -99);
        }
        x.film(0, 0, 2);
        due(34, "what was less is -999: otherwise than T", x.tells(0, 0, 0), 1);
        x.hush(0);
        for (int i = 0; i < 11; i++) {
            x.pulse(0, 1, i < 10 ? -99 : -9);
        }
        due(34, "what was less is -999", x.tells(0, 0, 0), -1);
        // A spent step
        x = bar(3, 1, 4, 0, 2, 1, 4, 0);
        x.rule(0, 20);
        x.rule(1, 1);
        int steps = x.spent(0);
        row(x, 3, 0, 7);
        due(34, "a step is spent", x.film(3, 0, steps + 1), -3);
        due(34, "the sheet stays", x.put(3, 0, 5) == 1 && x.load(3, 0, 0, 0) == 0 ? 1 : 0, 1);
        due(34, "all ahead of that", x.film(3, 0, steps), steps);
    }

    private static void drawn() {
        BarSteps x = new BarSteps();
        due(35, "without cells", x.drawn(1, 0), NO);
        x = bar(0, 1, 1, 5, 0, 1, 1, 8);
        due(35, "no step: the greatest", x.drawn(77, 0), 8);
        due(35, "too many", x.drawn(1, 21), NO);
        due(35, "too few", x.drawn(1, -1), NO);
        // SEED 0: z is 12345, 12345 >>> 9 is 24, 12345 >>> 20 is 0
        due(35, "7 1/4 behind it", x.drawn(0, 1), 7);
        // SEED 1: z is 1103527590; z >>> 9 is 2155327, z >>> 20 is 1052: 2 more at cell 1
        due(35, "10 less 5/4", x.drawn(1, 1), 8);
        x.heat(1, 9);
        due(35, "11 less 6/4", x.drawn(1, 1), 9);
        // SEED -1: z is -1103502900, an int; z >>> 9 is 6233328, z >>> 20 is 3043: 3 more at cell 0
        due(35, "9 less 1/4", x.drawn(-1, 1), 8);
        x.pulse(0, 1, 30);
        due(35, "with pulses: 5 and 6/4 and 30", x.drawn(1, 1), 36);
        due(35, "nothing is kept", x.count(1), 1);
        x = bar(0, 1, 1, 0);
        x.pulse(0, 1, -3);
        due(35, "the whole part", x.drawn(0, 1), -3);
        x = bar(3, 1, 4, 0, 2, 1, 4, 0);
        x.rule(0, 20);
        x.rule(1, 1);
        due(35, "a spent step", x.drawn(5, 20), NO);
    }

    private static void feedCall() {
        BarSteps x = new BarSteps();
        due(36, "one byte", x.feed(1, 0, 1, 2, 3, 4), 1);
        due(36, "five bytes", x.feed(5, 255, 1, 2, 3, 4), 6);
        due(36, "no byte", x.feed(0, 1, 1, 1, 1, 1), -2);
        due(36, "six bytes", x.feed(6, 1, 1, 1, 1, 1), -2);
        int[] good = {1, 1, 1, 1, 1};
        for (int i = 0; i < 5; i++) {
            int[] b = good.clone();
            b[i] = 256;
            due(36, "none such", x.feed(1, b[0], b[1], b[2], b[3], b[4]), -2);
            b[i] = -1;
            due(36, "none such", x.feed(1, b[0], b[1], b[2], b[3], b[4]), -2);
        }
        for (int size = 11; size <= 56; size += 5) {
            due(36, "more", x.feed(5, 1, 1, 1, 1, 1), size);
        }
        due(36, "no room for all", x.feed(5, 1, 1, 1, 1, 1), -4);
        due(36, "none came", x.count(2), 56);
        due(36, "just so", x.feed(4, 1, 1, 1, 1, 1), 60);
        due(36, "no room", x.feed(1, 1, 1, 1, 1, 1), -4);
        due(36, "BAD is ahead of FULL", x.feed(6, 1, 1, 1, 1, 1), -2);
        x = new BarSteps();
        x.feed(5, 'd', 'r', 'o', 'p', ';');
        x.feed(4, 'd', 'r', 'o', 'p', '!');
        due(36, "in their order, no more than asked", x.text(), 0);
    }

    private static void textFaults() {
        String[] texts = {"", " \n ", ";", "drop;", "drop ; ", "drop drop", "drop;;drop", "drops", "Drop", "dro",
            "cell 1 2 3", "cell 1 2 3 4 5", "cell 1 2 x 4", "cell 1;2", "left", "left 1000", "left -1000", "left 0001",
            "left - 1", "left -", "left --1", "left 1 -", "left +1", "left 1.", "heat 1 2", "drop\t", "drop" + (char) 0,
            "drop 1", "left 5right 5", "celldrop", "left 12 34", "drop; 1", "pulse 1 1 1 ;x", "fine" + (char) 225,
            "left -1-", "left 1a", "xrop", "dropz", "drop;z", "leftz 1", "left 1z", "a", "`", "{", "drop/", "left /", "left :",
            "left 1:"};
        int[] faults = {0, 3, 0, 5, 7, 5, 5, 0, 0, 0, 10, 13, 9, 6, 4, 5, 5, 5, 5, 5, 5, 7, 5, 6, -1, 4, 4, 5, 6, 0, 8,
            6, 13, 4, 7, 6, 0, 0, 5, 0, 6, 0, 0, 0, 4, 5, 5, 6};
        for (int i = 0; i < texts.length; i++) {
            BarSteps x = new BarSteps();
            int want = faults[i] < 0 ? 0 : -100 - faults[i];
            due(37, "text [" + texts[i] + "]", text(x, texts[i]), want);
            due(37, "the tape is empty", x.count(2), 0);
        }
        BarSteps x = new BarSteps();
        due(37, "nothing is done by a fault", text(x, "cell 0 1 1 1;left 5;?"), -120);
        due(37, "no cell came", x.count(0), 0);
        due(37, "nor was an end held", x.end(0, 1), -1);
    }

    private static void textClauses() {
        BarSteps x = new BarSteps();
        due(37, "all clauses", text(x, "cell 3 4 2 9;heat 0 8;source 0 -7;left 1;right 2;fine 3"), 6);
        dueParts(37, "T", t(x, 0), 8, 1);
        due(37, "KIND", x.of(0, 0), 3);
        due(37, "K", x.of(0, 1), 4);
        due(37, "C", x.of(0, 2), 2);
        due(37, "SOURCE", x.of(0, 3), -7);
        dueParts(37, "T", t(x, 0), 8, 1);
        due(37, "left", x.end(0, -1), 1);
        due(37, "right", x.end(1, -1), 2);
        due(37, "FINE", x.rule(0, 4), 3);
        due(37, "a source that was -2, then -3", text(x, "source 0 -2;source 0 -3;source 0 1"), 3);
        due(37, "T of a cell that comes", text(x, "cell 0 1 1 77"), 1);
        dueParts(37, "T of a cell that comes", t(x, 1), 77, 1);
        x.drop();
        due(37, "no blanks", text(x, "pulse0 1-2;drop"), 2);
        due(37, "dropped", x.count(0), 0);
        due(37, "refused ones aren't done", text(x, "drop;cell 6 1 1 1;heat 0 1;left 9;left -2;fine 21"), 1);
        due(37, "left", x.end(0, -1), 9);
        due(37, "a refused source, pulse, right", text(x, "source 0 1;pulse 0 1 1;right -9\n"), 0);
        due(37, "one behind the other", text(x, "cell 0 1 1 1;pulse 0 20 -99;heat 0 2;drop;drop"), 4);
        due(37, "-0 and 007", text(x, "left -0;right 007"), 2);
        due(37, "left", x.end(0, -1), 0);
        due(37, "right", x.end(1, -1), 7);
        due(37, "left -1", text(x, "left -1;right -1"), 2);
        due(37, "twelve clauses", text(x, "drop;drop;drop;drop;drop;drop;drop;drop;drop;drop;drop;drop"), 0);
        due(37, "nine cells, the ninth is refused",
            text(x, "cell0 1 1 1;cell0 1 1 1;cell0 1 1 1;cell0 1 1 1;cell0 1 1 1") * 10
                + text(x, "cell0 1 1 1;cell0 1 1 1;cell0 1 1 1;cell0 1 1 1"), 53);
    }

    private static void imageAndBack() {
        BarSteps x = new BarSteps();
        due(39, "there is none", x.back(), -3);
        due(38, "of no cells", x.image(), 0);
        x.cell(0, 1, 1, 1);
        due(39, "of no cells", x.back(), 0);
        due(39, "no cells", x.count(0), 0);
        x = bar(0, 1, 1, 5, 4, 3, 3, 0);
        x.set(1, 3, 6);
        x.end(0, 9);
        x.rule(0, 3);
        x.rule(1, 7);
        x.pulse(1, 4, 8);
        x.step(1);
        long above = x.t(1, 0);
        long below = x.t(1, 1);
        row(x, 0, 0, 5);
        feed(x, "drop");
        due(38, "image", x.image(), 2);
        for (int round = 0; round < 2; round++) {
            x.step(1);
            x.set(1, 3, 1);
            x.set(1, 2, 0);
            x.set(1, 0, 9);
            x.set(1, 1, 1);
            x.end(0, -1);
            x.end(1, 4);
            x.rule(0, 4);
            x.rule(1, 1);
            x.hush(1);
            x.drop();
            x.sheet(0, -1, 0);
            due(39, "back", x.back(), 2);
            dueParts(39, "T", t(x, 1), above, below);
            due(39, "KIND, K, C", x.of(1, 0) * 100 + x.of(1, 1) * 10 + x.of(1, 2), 433);
            due(39, "SOURCE", x.of(1, 3), 6);
            due(39, "SIDE", x.of(1, 4), 7);
            due(39, "the pulse", x.pulseOf(0, 1) * 10 + x.pulseOf(0, 2), 38);
            due(39, "left", x.end(0, 9), 9);
            due(39, "right", x.end(1, -1), -1);
            due(39, "FINE", x.rule(0, 3), 3);
            due(39, "AIR", x.rule(1, 7), 7);
            due(39, "the tape is not kept", x.count(2), 4);
            due(39, "sheets are not kept", x.put(0, 0, 0), -11);
        }
        x.drop();
        due(38, "another image", x.image(), 1);
        x.drop();
        due(39, "back to the other", x.back(), 1);
    }

    private static void load() {
        BarSteps x = new BarSteps();
        due(40, "missing", x.load(0, 0, 0, 0), -11);
        due(40, "missing, of whatever sort", x.load(0, 1, 0, 1), -11);
        due(40, "no such sheet", x.load(4, 0, 0, 0), -2);
        due(40, "no such sort, ahead of missing", x.load(0, 2, 0, 0), -2);
        due(40, "no such sort", x.load(0, -1, 0, 0), -2);
        due(40, "no such n, ahead of missing", x.load(0, 0, 0, 9), -2);
        due(40, "no such n", x.load(0, 0, 0, -1), -2);
        row(x, 0, 0, 99, 3, 4, 2, 9, 0, 10, 1, 1, 5, 9, 1, 0);
        due(40, "of another sort", x.load(0, 1, 0, 0), -13);
        due(40, "none", x.load(0, 0, 99, 0), 0);
        due(40, "three, one is left out", x.load(0, 0, 1, 3), 2);
        due(40, "the first", x.of(0, 0) * 100 + x.of(0, 1) * 10 + x.of(0, 2), 342);
        dueParts(40, "its T", t(x, 0), 9, 1);
        due(40, "the second", x.of(1, 0) * 100 + x.of(1, 1) * 10 + x.of(1, 2), 591);
        due(40, "outside", x.load(0, 0, 1, 4), -12);
        due(40, "what stood ahead came", x.count(0), 4);
        due(40, "outside in the midst", x.load(0, 0, 10, 1), -12);
        due(40, "outside", x.load(0, 0, -1, 1), -12);
        due(40, "outside", x.load(0, 0, GREATEST, 1), -12);
        due(40, "outside", x.load(0, 0, LEAST, 1), -12);
        due(40, "none of these came", x.count(0), 4);
        row(x, 1, 1, new int[32]);
        for (int i = 0; i < 8; i++) {
            x.put(1, 4 * i + 1, 1);
            x.put(1, 4 * i + 2, 1);
        }
        due(40, "those that have room", x.load(1, 1, 0, 8), 4);
        due(40, "outside, though there is no room", x.load(1, 1, 4, 8), -12);
    }

    private static void count() {
        BarSteps x = bar(3, 1, 1, 0, 3, 1, 1, 0, 0, 1, 1, 0);
        x.set(0, 3, -9);
        x.set(2, 3, 4);
        x.pulse(0, 1, 50);
        x.pulse(1, 2, -70);
        x.feed(3, 1, 1, 1, 1, 1);
        int[] want = {3, 2, 3, -20, 2, -5};
        for (int what = 0; what < 6; what++) {
            due(41, "count(" + what + ")", x.count(what), want[what]);
        }
        due(41, "no such what", x.count(6), -1000);
        due(41, "no such what", x.count(-1), -1000);
        x.drop();
        due(41, "SOURCES of those that are left", x.count(5), -9);
    }

    private static void sheetAndPut() {
        BarSteps x = new BarSteps();
        due(42, "shorts", x.sheet(0, 0, 40), 1);
        due(42, "ints", x.sheet(3, 1, 0), 1);
        due(42, "no such sheet", x.sheet(4, 0, 0), -2);
        due(42, "no such sheet", x.sheet(-1, 0, 0), -2);
        due(42, "no such sort", x.sheet(0, 2, 0), -2);
        due(42, "no such sort, ahead of the size", x.sheet(0, -2, -1), -2);
        due(42, "too many", x.sheet(0, 0, 41), -2);
        due(42, "below 0", x.sheet(0, 0, -1), -14);
        due(42, "below 0", x.sheet(0, 1, LEAST), -14);
        due(43, "the last", x.put(0, 39, 5), 1);
        due(43, "outside", x.put(0, 40, 5), -12);
        due(43, "outside", x.put(0, -1, 5), -12);
        due(43, "outside", x.put(3, 0, 5), -12);
        due(43, "no such sheet", x.put(4, 0, 5), -2);
        due(43, "missing", x.put(1, 0, 5), -11);
        due(42, "missing, n does not matter", x.sheet(0, -1, -5), 1);
        due(42, "missing, n does not matter", x.sheet(0, -1, 99), 1);
        due(43, "missing, ahead of outside", x.put(0, 99, 5), -11);
        // Of shorts the lowest 16 bits: 65536 + 7 is 7; of ints all
        x = bar(0, 1, 1, 7);
        row(x, 0, 0, 65543);
        due(43, "shorts", x.tells(0, 0, 0), -1);
        row(x, 0, 1, 65543);
        due(43, "ints", x.tells(0, 0, 0), 0);
        x = bar(0, 1, 1, 0);
        x.pulse(0, 1, -1);
        row(x, 0, 0, 0, 65535);
        due(43, "shorts have a sign", x.tells(0, 0, 0), -1);
        x.sheet(0, 0, 1);
        due(42, "all 0", x.tells(0, 0, 0), -1);
        x.put(0, 0, 9);
        x.sheet(0, 0, 1);
        due(42, "all 0 again", x.tells(0, 0, 0), -1);
    }

    private static void copy() {
        BarSteps x = new BarSteps();
        due(44, "no such sheet", x.copy(4, 0, 0, 0, 0), -2);
        due(44, "no such other, ahead of missing", x.copy(0, 0, -1, 0, 0), -2);
        due(44, "missing", x.copy(0, 0, 1, 0, 0), -11);
        row(x, 0, 0, 0, 1, 2, 3, 4);
        due(44, "the other is missing", x.copy(0, 0, 1, 0, 0), -11);
        due(44, "the one is missing", x.copy(1, 0, 0, 0, 0), -11);
        x.sheet(1, 1, 5);
        due(44, "of unlike sorts, ahead of outside", x.copy(0, 9, 1, 0, 0), -13);
        x.sheet(1, 0, 3);
        int[][] outside = {{-1, 0, 1}, {0, -1, 1}, {0, 0, -1}, {3, 0, 3}, {0, 1, 3}, {6, 0, 0}, {0, 4, 0},
            {0, 0, GREATEST}, {GREATEST, 0, 1}, {1, 1, GREATEST}, {0, 0, LEAST}};
        for (int[] b : outside) {
            due(44, "outside", x.copy(0, b[0], 1, b[1], b[2]), -12);
        }
        due(44, "none, at both ends", x.copy(0, 5, 1, 3, 0), 0);
        due(44, "three", x.copy(0, 2, 1, 0, 3), 3);
        // Told by heats of a bar that gains 1 each step: 2, 3, 4
        BarSteps y = bar(0, 1, 1, 2);
        y.set(0, 3, 4);
        row(y, 0, 0, 0, 1, 2, 3, 4);
        y.sheet(1, 0, 3);
        y.copy(0, 2, 1, 0, 3);
        due(44, "what came", y.tells(1, 0, 0), -1);
        due(44, "onto itself, upward", y.copy(0, 0, 0, 1, 4), 4);
        y.heat(0, 0);
        y.copy(0, 1, 1, 0, 3);
        due(44, "as they were: 0, 1, 2", y.tells(1, 0, 0), -1);
        due(44, "onto itself, downward", y.copy(0, 2, 0, 0, 3), 3);
        y.heat(0, 1);
        y.copy(0, 0, 1, 0, 3);
        due(44, "as they were: 1, 2, 3", y.tells(1, 0, 0), -1);
    }
}
