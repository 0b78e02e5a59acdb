/** The document's first part (CELLS, KINDS, ENDS, RULES, JOINTS, THE LINE, STABLE), at its edges, a sentence each. */
public final class EdgesOfCellsTest extends ByHand {
    public static void main(String[] args) {
        asTheyCome();
        eightAtMost();
        dropToNone();
        sides();
        holdsAndFins();
        made();
        madeAnew();
        kinsOfAll();
        endsAtFirst();
        heldAtNothingIsNotShut();
        joints();
        jointLeadsTheLesser();
        flowAtEnds();
        flowInLowestTerms();
        theLine();
        lineOfFractions();
        stableJustSo();
        stableEachOfThem();
        need();
        sum();
        most();
        counts();
        manyCalls();
        endOf("EdgesOfCellsTest");
    }

    /** CELLS, numbered from 0 as they come; SOURCE 0 as one comes; T whole as one comes, 0 .. 999. */
    private static void asTheyCome() {
        BarSteps x = new BarSteps();
        int[] heats = {0, 999, 500};
        for (int i = 0; i < 3; i++) {
            due(2, "its number", x.cell(i, 9 - i, 4 - i, heats[i]), i);
        }
        for (int i = 0; i < 3; i++) {
            due(2, "KIND", x.of(i, 0), i);
            due(2, "K", x.of(i, 1), 9 - i);
            due(2, "C", x.of(i, 2), 4 - i);
            due(2, "SOURCE", x.of(i, 3), 0);
            dueParts(2, "T", t(x, i), heats[i], 1);
        }
        // One that comes where one was before has nothing of it
        x.set(2, 3, 9);
        x.pulse(2, 1, 9);
        x.drop();
        due(2, "its number, again", x.cell(5, 1, 1, 1), 2);
        due(2, "its SOURCE", x.of(2, 3), 0);
        due(2, "its pulses", x.count(1), 0);
        // One that comes over a line of 4 is whole
        x = bar(0, 1, 1, 0, 0, 1, 1, 1);
        x.step(1);
        x.cell(0, 1, 1, 7);
        dueParts(2, "T over a line of 4", t(x, 2), 7, 1);
        due(2, "the line stays", x.line(), 4);
    }

    private static void eightAtMost() {
        BarSteps x = new BarSteps();
        for (int i = 0; i < 8; i++) {
            due(2, "up to 8", x.cell(0, 1, 1, i), i);
        }
        due(2, "a ninth", x.cell(0, 1, 1, 8), FULL);
        due(2, "8 are there", x.count(0), 8);
        dueParts(2, "the last", t(x, 7), 7, 1);
        due(3, "drop", x.drop(), 7);
        due(2, "there is room again", x.cell(0, 1, 1, 9), 7);
        due(2, "a ninth", x.cell(0, 1, 1, 8), FULL);
    }

    /** drop: how many there are; STATE: none. The latest one's PULSES are none any more. */
    private static void dropToNone() {
        BarSteps x = alike(8, 0, 1, 1, 5);
        for (int i = 0; i < 12; i++) {
            x.pulse(7 - i % 4, 1 + i, i);
        }
        int[] pulses = {9, 6, 3, 0, 0, 0, 0, 0};
        for (int left = 7; left >= 0; left--) {
            due(3, "drop", x.drop(), left);
            due(3, "pulses left", x.count(1), pulses[7 - left]);
        }
        due(3, "drop of none", x.drop(), STATE);
        due(3, "and again", x.drop(), STATE);
        x = alike(2, 0, 1, 1, 5);
        x.pulse(1, 1, 10);
        x.pulse(0, 2, 20);
        x.pulse(1, 3, 30);
        x.pulse(0, 4, 40);
        x.drop();
        due(3, "those behind one are one less", x.pulseOf(0, 2), 20);
        due(3, "those behind one are one less", x.pulseOf(1, 2), 40);
        due(3, "no more", x.pulseOf(2, 2), NO_SUCH);
    }

    /** CLAD: half of a PLAIN's, rounded up; TURNED: 10 less a DENSE one's; LINED: the lesser of 2 and a CLAD's. */
    private static void sides() {
        int[][] want = {
            {1, 2, 3, 4, 5, 6, 7, 8, 9},
            {1, 1, 2, 2, 3, 3, 4, 4, 5},
            {1, 2, 3, 4, 5, 6, 7, 8, 9},
            {1, 1, 2, 2, 3, 3, 4, 4, 5},
            {9, 8, 7, 6, 5, 4, 3, 2, 1},
            {1, 1, 2, 2, 2, 2, 2, 2, 2}};
        for (int kind = 0; kind < 6; kind++) {
            for (int k = 1; k <= 9; k++) {
                due(6, "SIDE of kind " + kind + ", K " + k, bar(kind, k, 1, 0).of(0, 4), want[kind][k - 1]);
            }
        }
    }

    /** DENSE: HOLDS twice a PLAIN's, and so of TURNED under it; FINNED: FIN 1, no other. */
    private static void holdsAndFins() {
        int[] times = {1, 1, 2, 1, 2, 1};
        for (int kind = 0; kind < 6; kind++) {
            for (int c = 1; c <= 4; c++) {
                BarSteps x = bar(kind, 5, c, 0);
                due(6, "HOLDS of kind " + kind + ", C " + c, x.of(0, 5), times[kind] * c);
                due(6, "FIN of kind " + kind, x.of(0, 6), kind == 3 ? 1 : 0);
            }
        }
    }

    /** 1, then 3, then, if C is 1, 2 (if not, none for that); then of CLAD 4, of DENSE 5; then 6, 7, 8. */
    private static void made() {
        int[] byOne = {132, 1324, 1325, 13246, 13257, 13248};
        int[] byMore = {13, 134, 135, 1346, 1357, 1348};
        for (int kind = 0; kind < 6; kind++) {
            for (int c = 1; c <= 4; c++) {
                due(6, "MADE of kind " + kind + ", C " + c, bar(kind, 5, c, 0).of(0, 7),
                    c == 1 ? byOne[kind] : byMore[kind]);
            }
        }
    }

    /** It is MADE anew, as its KIND, K or C becomes another, or the same again; T, SOURCE stay. */
    private static void madeAnew() {
        BarSteps x = bar(0, 7, 1, 3, 0, 7, 1, 0);
        x.set(0, 3, 8);
        x.step(1);
        // 3 and (-7 times 3, and 8) by 4
        dueParts(4, "T", t(x, 0), -1, 4);
        x.set(0, 1, 2);
        due(4, "by C 2", x.of(0, 7) * 10 + x.of(0, 5), 132);
        x.set(0, 1, 1);
        due(4, "by C 1 again", x.of(0, 7), 132);
        x.set(0, 2, 5);
        due(4, "by KIND 5", x.of(0, 7) * 10 + x.of(0, 4), 132482);
        x.set(0, 2, 5);
        due(4, "the same KIND again", x.of(0, 7) * 10 + x.of(0, 4), 132482);
        x.set(0, 0, 2);
        due(4, "by K 2", x.of(0, 7) * 10 + x.of(0, 4), 132481);
        x.set(0, 0, 2);
        due(4, "the same K again", x.of(0, 7) * 10 + x.of(0, 4), 132481);
        x.set(0, 2, 4);
        due(4, "by KIND 4", x.of(0, 7) * 100 + x.of(0, 4) * 10 + x.of(0, 5), 1325782);
        dueParts(4, "T stays", t(x, 0), -1, 4);
        due(4, "SOURCE stays", x.of(0, 3), 8);
        due(4, "the other is as it was", x.of(1, 0) * 100 + x.of(1, 1) * 10 + x.of(1, 2), 71);
    }

    /** A KIND and all that it is under; a CELL taken for one of that KIND, or one under that. */
    private static void kinsOfAll() {
        int[] kin = {0b1, 0b11, 0b101, 0b1011, 0b10101, 0b100011};
        for (int kind = 0; kind < 6; kind++) {
            BarSteps x = bar(kind, 9 - kind, 1, 0);
            due(8, "kin of " + kind, x.kin(kind), kin[kind]);
            for (int k = 0; k < 6; k++) {
                boolean under = (kin[kind] & 1 << k) != 0;
                due(7, "kind " + kind + " taken for " + k, x.taken(0, k), under ? 9 - kind : UNLIKE);
            }
        }
        BarSteps x = bar(3, 8, 1, 0);
        due(7, "FINNED for CLAD", x.taken(0, 1), 8);
        x.set(0, 2, 4);
        due(7, "TURNED for CLAD", x.taken(0, 1), UNLIKE);
        due(7, "TURNED for DENSE", x.taken(0, 2), 8);
        due(7, "BAD is ahead of -13", x.taken(1, 1), BAD);
        due(7, "BAD is ahead of -13", x.taken(0, 6), BAD);
    }

    /** SHUT at first; FINE 4 at first, AIR 0. */
    private static void endsAtFirst() {
        BarSteps x = new BarSteps();
        due(9, "left at first", x.end(0, 0), -1);
        due(9, "right at first", x.end(1, 999), -1);
        due(9, "left was 0", x.end(0, -1), 0);
        due(9, "right was 999", x.end(1, -1), 999);
        due(9, "left was SHUT", x.end(0, -1), -1);
        due(9, "right was SHUT", x.end(1, 5), -1);
        due(10, "FINE at first", x.rule(0, 1), 4);
        due(10, "AIR at first", x.rule(1, 999), 0);
        due(10, "FINE was 1", x.rule(0, 20), 1);
        due(10, "AIR was 999", x.rule(1, 0), 999);
        due(10, "FINE was 20", x.rule(0, 20), 20);
        due(10, "AIR was 0", x.rule(1, 0), 0);
    }

    /** An end HELD at 0 leads and lets heat go; one that is SHUT does not. */
    private static void heldAtNothingIsNotShut() {
        BarSteps x = bar(0, 3, 1, 10);
        due(13, "shut", x.joint(-1) * 10 + x.joint(0), 0);
        due(31, "shut: it rests", x.isSteady(), 1);
        x.end(0, 0);
        due(13, "left held at 0", x.joint(-1) * 10 + x.joint(0), 30);
        due(31, "it does not rest", x.isSteady(), 0);
        dueParts(14, "flow at 0", flow(x, -1), -30, 1);
        x.end(0, -1);
        x.end(1, 0);
        due(13, "right held at 0", x.joint(-1) * 10 + x.joint(0), 3);
        dueParts(14, "flow at 0", flow(x, 0), 30, 1);
        dueParts(27, "steady at 0", steady(x, 0), 0, 1);
        x.end(1, -1);
        due(27, "shut: none", x.steady(0, 0), NO);
    }

    /** JOINT -1 at the left end, the number of the last CELL at the right end (none without CELLS). */
    private static void joints() {
        for (int n = 1; n <= 8; n++) {
            BarSteps x = alike(n, 0, 2, 1, 5);
            x.end(0, 1);
            x.end(1, 2);
            for (int i = -1; i < n; i++) {
                due(13, "joint " + i + " of " + n, x.joint(i), 2);
            }
            due(13, "ahead of the left end", x.joint(-2), BAD);
            due(13, "behind the right end", x.joint(n), BAD);
            dueParts(14, "flow at the left end", flow(x, -1), -8, 1);
            dueParts(14, "flow at the right end", flow(x, n - 1), 6, 1);
            due(14, "ahead of the left end", x.flow(-2, 0), NO);
            due(14, "behind the right end", x.flow(n, 0), NO);
        }
        BarSteps x = bar(0, 2, 1, 5);
        x.end(0, 1);
        x.drop();
        due(13, "none without cells", x.joint(-1), BAD);
        due(14, "none without cells", x.flow(-1, 1), NO);
    }

    /** It LEADS the lesser SIDE of both CELLS, by SIDE and not by K. */
    private static void jointLeadsTheLesser() {
        // SIDES 9, 1, 1, 5
        BarSteps x = bar(0, 9, 1, 0, 0, 1, 1, 0, 4, 9, 1, 0, 1, 9, 1, 0);
        x.end(0, 0);
        x.end(1, 0);
        int[] want = {9, 1, 1, 1, 5};
        for (int i = -1; i <= 3; i++) {
            due(13, "joint " + i, x.joint(i), want[i + 1]);
        }
        x.set(1, 0, 9);
        due(13, "9 and 9", x.joint(0), 9);
        x.set(2, 0, 1);
        due(13, "9 and 9", x.joint(1), 9);
        due(13, "9 and 5", x.joint(2), 5);
    }

    /** An end HELD counts as a CELL with the heat at which it is HELD. */
    private static void flowAtEnds() {
        BarSteps x = bar(0, 9, 1, 999, 0, 9, 1, 0);
        dueParts(14, "the greatest", flow(x, 0), 8991, 1);
        x.end(0, 0);
        x.end(1, 999);
        dueParts(14, "the least, left", flow(x, -1), -8991, 1);
        dueParts(14, "the least, right", flow(x, 1), -8991, 1);
        x.end(0, 999);
        x.end(1, 0);
        dueParts(14, "as hot, left", flow(x, -1), 0, 1);
        dueParts(14, "as hot, right", flow(x, 1), 0, 1);
        x.end(0, -1);
        x.end(1, -1);
        dueParts(14, "shut, left", flow(x, -1), 0, 1);
        dueParts(14, "shut, right", flow(x, 1), 0, 1);
    }

    /** Fractions are told in lowest terms, the sign above (0 as 0 by 1). */
    private static void flowInLowestTerms() {
        // Behind a step 1/4 and 3/4
        BarSteps x = bar(0, 1, 1, 0, 0, 1, 1, 1);
        x.step(1);
        dueParts(11, "T", t(x, 0), 1, 4);
        dueParts(14, "a flow of -2/4", flow(x, 0), -1, 2);
        dueParts(17, "a sum of 4/4", sum(x), 1, 1);
        x.set(0, 1, 3);
        dueParts(17, "a sum of 6/4", sum(x), 3, 2);
        x.end(0, 1);
        dueParts(14, "a flow of 3/4", flow(x, -1), 3, 4);
        dueParts(14, "a shut end over a line of 4", flow(x, 1), 0, 1);
        x.heat(0, 0);
        dueParts(11, "0 over a line of 4", t(x, 0), 0, 1);
        dueParts(11, "3/4", t(x, 1), 3, 4);
        // 2 less 9/4
        x = bar(0, 1, 1, 2);
        x.set(0, 3, -9);
        x.step(1);
        dueParts(11, "below 0", t(x, 0), -1, 4);
        dueParts(17, "a sum below 0", sum(x), -1, 4);
    }

    /** THE LINE: 1 without CELLS, and of whole heats. */
    private static void theLine() {
        BarSteps x = new BarSteps();
        due(12, "without cells", x.line(), 1);
        x.cell(0, 1, 1, 999);
        due(12, "of one whole heat", x.line(), 1);
        x.cell(0, 1, 1, 0);
        due(12, "of two whole heats", x.line(), 1);
        x.step(1);
        // 999 less 999/4
        due(12, "behind a step", x.line(), 4);
        x.heat(0, 5);
        due(12, "one is whole again", x.line(), 4);
        x.heat(1, 5);
        due(12, "both are whole again", x.line(), 1);
        x.heat(1, 6);
        x.step(2);
        due(12, "behind two steps", x.line(), 8);
        x.drop();
        due(12, "of the one that is left", x.line(), 8);
        x.drop();
        due(12, "without cells", x.line(), 1);
        x.cell(0, 1, 1, 1);
        due(12, "of one that comes", x.line(), 1);
    }

    /** The least whole number by which all T are whole: of 1/4 and 1/6 it is 12, not 24. */
    private static void lineOfFractions() {
        // 1 by 4, and 2 by (3 times 4)
        BarSteps x = bar(0, 1, 1, 0, 0, 1, 3, 0);
        x.set(0, 3, 1);
        x.set(1, 3, 2);
        x.step(1);
        dueParts(11, "the one", t(x, 0), 1, 4);
        dueParts(11, "the other", t(x, 1), 1, 6);
        due(12, "their line", x.line(), 12);
        x.drop();
        due(12, "the line of 1/4", x.line(), 4);
        // 6 by 12 is a half
        x = bar(0, 1, 3, 0);
        x.set(0, 3, 6);
        x.step(1);
        due(12, "the line of a half", x.line(), 2);
    }

    /** STABLE: LEADS of both its JOINTS, and FIN, together, are no more than HOLDS times FINE. */
    private static void stableJustSo() {
        // 5 and 5 and a FIN are 11
        BarSteps x = bar(3, 9, 1, 0);
        x.end(0, 0);
        x.end(1, 0);
        int[] want = {0, 1, 1};
        for (int fine = 10; fine <= 12; fine++) {
            x.rule(0, fine);
            due(15, "11 by FINE " + fine, x.stable(0), want[fine - 10]);
        }
        x.rule(0, 10);
        x.end(1, -1);
        due(15, "a shut end leads nothing", x.stable(0), 1);
        x.rule(0, 5);
        due(15, "6 by 5", x.stable(0), 0);
        x.set(0, 1, 2);
        due(15, "6 by 10", x.stable(0), 1);
        x.rule(0, 3);
        due(15, "6 by 6", x.stable(0), 1);
        x.set(0, 2, 1);
        x.end(0, -1);
        x.rule(0, 1);
        due(15, "nothing by 2", x.stable(0), 1);
    }

    /** NONE: each of them; without CELLS 1. */
    private static void stableEachOfThem() {
        BarSteps x = new BarSteps();
        due(15, "without cells", x.stable(NONE), 1);
        x = alike(3, 0, 3, 1, 0);
        x.rule(0, 3);
        // 3, 6, 3
        due(15, "the first", x.stable(0), 1);
        due(15, "the second", x.stable(1), 0);
        due(15, "the last", x.stable(2), 1);
        due(15, "each of them", x.stable(NONE), 0);
        x.end(1, 5);
        due(15, "the last, held", x.stable(2), 0);
        x.rule(0, 5);
        due(15, "each of them", x.stable(NONE), 0);
        x.rule(0, 6);
        due(15, "each of them", x.stable(NONE), 1);
        // Only the first one is not
        x = bar(0, 3, 1, 0, 0, 3, 4, 0, 0, 3, 4, 0);
        x.rule(0, 2);
        due(15, "the first alone", x.stable(0) * 100 + x.stable(1) * 10 + x.stable(2), 11);
        due(15, "each of them", x.stable(NONE), 0);
        // Only the last one is not
        x = bar(0, 3, 4, 0, 0, 3, 4, 0, 0, 3, 1, 0);
        x.rule(0, 2);
        due(15, "the last alone", x.stable(0) * 100 + x.stable(1) * 10 + x.stable(2), 110);
        due(15, "each of them", x.stable(NONE), 0);
    }

    /** The least FINE (1 or more) by which all are STABLE; just that, whatever FINE is. */
    private static void need() {
        due(16, "without cells", new BarSteps().need(), 1);
        BarSteps x = bar(0, 9, 1, 0);
        due(16, "nothing is led", x.need(), 1);
        x.end(0, 0);
        due(16, "9 by 1", x.need(), 9);
        x.end(1, 0);
        due(16, "18 by 1", x.need(), 18);
        x.rule(0, 18);
        due(15, "by that", x.stable(0), 1);
        x.rule(0, 17);
        due(15, "by one less", x.stable(0), 0);
        due(16, "FINE does not matter", x.need(), 18);
        int[] want = {18, 9, 6, 5};
        for (int c = 1; c <= 4; c++) {
            x.set(0, 1, c);
            due(16, "18 by C " + c, x.need(), want[c - 1]);
        }
        x.set(0, 2, 2);
        due(16, "18 by 8", x.need(), 3);
        x = bar(0, 1, 4, 0, 0, 1, 4, 0);
        due(16, "less than 1 is 1", x.need(), 1);
        // The greatest is not the last
        x = bar(0, 4, 1, 0, 0, 4, 1, 0, 0, 4, 4, 0);
        due(16, "of the second", x.need(), 8);
    }

    /** HOLDS times T of all CELLS, together: 0 by 1 without CELLS. */
    private static void sum() {
        dueParts(17, "without cells", sum(new BarSteps()), 0, 1);
        BarSteps x = alike(8, 4, 9, 4, 999);
        dueParts(17, "the greatest of whole heats", sum(x), 63936, 1);
        dueParts(17, "of nothing", sum(alike(8, 0, 1, 1, 0)), 0, 1);
        // Told heats over a line of 10^12: seven times 8 times 999, and what is there, 8 times
        x = atTheBound();
        x.set(0, 2, 2);
        x.set(0, 1, 4);
        for (int i = 1; i < 8; i++) {
            x.cell(2, 1, 4, 999);
        }
        due(17, "the greatest, above", x.sum(0), (55944 * BOUND + 8 * ABOVE_AT_THE_BOUND) / 8);
        due(17, "the greatest, below", x.sum(1), BOUND / 8);
    }

    /** Of like ones the first; NONE: no CELLS. */
    private static void most() {
        BarSteps x = new BarSteps();
        due(18, "without cells", x.most(0) * 10 + x.most(1), -11);
        x = alike(8, 0, 1, 1, 5);
        due(18, "all alike", x.most(0) * 10 + x.most(1), 0);
        x.heat(7, 6);
        x.heat(6, 4);
        due(18, "at the end", x.most(0) * 10 + x.most(1), 76);
        x.heat(3, 6);
        x.heat(2, 4);
        due(18, "of like ones the first", x.most(0) * 10 + x.most(1), 32);
        due(18, "of one cell", bar(0, 1, 1, 9).most(0), 0);
        // 1/4 less 9/4, and 0
        x = bar(0, 1, 1, 0, 0, 1, 1, 0);
        x.set(0, 3, -9);
        x.step(1);
        due(18, "below 0 is less than 0", x.most(0) * 10 + x.most(1), 10);
        // 10^12 - 9^12 by 10^12 is between 0 and 1
        x = atTheBound();
        x.cell(0, 1, 1, 0);
        x.cell(0, 1, 1, 1);
        due(18, "fractions are compared exactly", x.most(0) * 10 + x.most(1), 21);
    }

    /** How many, empty and full; together, at their least and greatest. */
    private static void counts() {
        BarSteps x = new BarSteps();
        for (int what = 0; what < 6; what++) {
            due(41, "of nothing, " + what, x.count(what), 0);
        }
        x = alike(8, 3, 1, 1, 0);
        for (int i = 0; i < 8; i++) {
            x.set(i, 3, 9);
        }
        for (int i = 0; i < 12; i++) {
            x.pulse(0, 1, 99);
            x.feed(5, 32, 32, 32, 32, 32);
        }
        int[] greatest = {8, 12, 60, 1188, 8, 72};
        for (int what = 0; what < 6; what++) {
            due(41, "the greatest, " + what, x.count(what), greatest[what]);
        }
        x.hush(0);
        for (int i = 0; i < 8; i++) {
            x.set(i, 3, -9);
            x.set(i, 2, 1);
        }
        for (int i = 0; i < 12; i++) {
            x.pulse(0, 1, -99);
        }
        int[] least = {8, 12, 60, -1188, 0, -72};
        for (int what = 0; what < 6; what++) {
            due(41, "the least, " + what, x.count(what), least[what]);
        }
    }

    /** An object is used for at most 512 calls: the last of them is answered as the first. */
    private static void manyCalls() {
        BarSteps x = alike(8, 0, 1, 1, 5);
        for (int i = 8; i < 511; i++) {
            switch (i % 4) {
                case 0 -> x.buried(0, 1);
                case 1 -> x.step(40);
                case 2 -> x.image();
                default -> x.back();
            }
        }
        due(11, "the 512th call", x.t(7, 0), 5);
    }
}
