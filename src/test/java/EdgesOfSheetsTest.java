/** The document's third part (BURIED, TOLD, DRAWN, THE TAPE, AN IMAGE, SHEETS), at its edges, a sentence each. */
public final class EdgesOfSheetsTest extends ByHand {
    public static void main(String[] args) {
        buriedWholeParts();
        buriedFirstAndLast();
        buriedInsteadOfItsOwn();
        buriedTellsNone();
        buriedTellsAsManyAsThereAre();
        toldNow();
        toldTen();
        toldSpent();
        toldNone();
        toldKinds();
        filmTen();
        filmCut();
        filmSpent();
        drawnWraps();
        drawnWhichCell();
        drawnEnds();
        tapeSixty();
        feedJustThose();
        textIsEmptyThen();
        tokensAsLongAsCanBe();
        numbersTooLong();
        minusAlone();
        bytesThatBeginNone();
        blanks();
        clausesBetween();
        endsTooEarly();
        tooManyNumbers();
        wordsThatAreNone();
        clausesAtTheirRanges();
        clausesRefused();
        sixtyBytesOfText();
        lastOfSixtyBytes();
        shorterTexts();
        imageIsReplaced();
        imageKeepsAll();
        imageKeepsNoSheets();
        loadFourACell();
        sheetsAnew();
        putLowestBits();
        copyAsTheyWere();
        copyOfNone();
        endOf("EdgesOfSheetsTest");
    }

    /** So many cells, LEADS 1, the left end SHUT, the right end HELD at 0: a source v of i is v (n - j) from i on. */
    private static BarSteps open(int cells) {
        BarSteps x = alike(cells, 0, 1, 1, 0);
        x.end(1, 0);
        return x;
    }

    /** The greatest whole number not above it. */
    private static void buriedWholeParts() {
        // One cell of SIDE 2 at both ends: T is v by 4
        BarSteps x = bar(0, 2, 1, 0);
        x.end(0, 0);
        x.end(1, 0);
        int[][] want = {{2, 17, 2}, {1, 13, 4}, {0, 9, 4}, {-1, 5, 4}, {-2, 1, 4}, {-3, 0, 1}, {-4, NONE, 0}, {3, NONE, 0}};
        for (int[] w : want) {
            row(x, 0, SHORTS, w[0]);
            due(32, "told " + w[0] + ": the first", x.buried(0, 0), w[1]);
            due(32, "told " + w[0] + ": how many", x.buried(0, 1), w[2]);
            row(x, 0, INTS, w[0]);
            due(32, "told by ints", x.buried(0, 0), w[1]);
        }
        row(x, 0, INTS, 65536);
        due(32, "far from any", x.buried(0, 0), NONE);
        row(x, 0, INTS, LEAST);
        due(32, "far from any", x.buried(0, 1), 0);
    }

    /** The first by i, then v: 100 times i, and v, and 9. */
    private static void buriedFirstAndLast() {
        BarSteps x = open(8);
        row(x, 0, SHORTS, 9, 9, 9, 9, 9, 9, 9, 9);
        due(32, "9 at 7, the last of all", x.buried(0, 0), 718);
        due(32, "it alone", x.buried(0, 1), 1);
        row(x, 0, SHORTS, -9, -9, -9, -9, -9, -9, -9, -9);
        due(32, "-9 at 7", x.buried(0, 0), 700);
        due(32, "it alone", x.buried(0, 1), 1);
        row(x, 0, SHORTS, -72, -63, -54, -45, -36, -27, -18, -9);
        due(32, "-9 at 0, the first of all", x.buried(0, 0), 0);
        due(32, "it alone", x.buried(0, 1), 1);
        row(x, 0, SHORTS, 72, 63, 54, 45, 36, 27, 18, 9);
        due(32, "9 at 0", x.buried(0, 0), 18);
        row(x, 0, SHORTS, 0, 0, 0, 0, 0, 0, 0, 0);
        due(32, "0 at any, the first", x.buried(0, 0), 9);
        due(32, "0 at any: 8", x.buried(0, 1), 8);
        row(x, 0, SHORTS, 8);
        // 1 at 0, 2 at 4, 4 at 6, 8 at 7
        due(32, "8 at the first cell: by i", x.buried(0, 0), 10);
        due(32, "8 at the first cell: four", x.buried(0, 1), 4);
        row(x, 0, SHORTS, 72, 63, 54, 45, 36, 27, 18, 8);
        due(32, "the last is otherwise", x.buried(0, 0), NONE);
        row(x, 0, SHORTS, 71, 63, 54, 45, 36, 27, 18, 9);
        due(32, "the first is otherwise", x.buried(0, 1), 0);
    }

    /** v being the SOURCE of i instead of its own; the others keep theirs. */
    private static void buriedInsteadOfItsOwn() {
        BarSteps x = open(2);
        x.set(0, 3, 5);
        x.set(1, 3, 7);
        // T0 is 2 S0 and S1, T1 is S0 and S1
        row(x, 0, SHORTS, 17, 12);
        due(32, "as it is", x.buried(0, 0), 14);
        due(32, "as it is, by either", x.buried(0, 1), 2);
        row(x, 0, SHORTS, 7, 7);
        due(32, "0 at 0", x.buried(0, 0) * 10 + x.buried(0, 1), 91);
        row(x, 0, SHORTS, 10, 5);
        due(32, "0 at 1", x.buried(0, 0) * 10 + x.buried(0, 1), 1091);
        due(32, "nothing is kept", x.of(0, 3) * 10 + x.of(1, 3), 57);
        dueParts(32, "nothing is kept", steady(x, 0), 17, 1);
    }

    /** CELLS that it doesn't tell are as they like; a SHEET of size 0 tells none. */
    private static void buriedTellsNone() {
        for (int n = 1; n <= 8; n++) {
            BarSteps x = open(n);
            x.sheet(0, SHORTS, 0);
            due(32, "the first of all", x.buried(0, 0), 0);
            due(32, "all", x.buried(0, 1), 19 * n);
        }
        BarSteps x = new BarSteps();
        x.sheet(0, INTS, 0);
        due(32, "without cells: NONE", x.buried(0, 0), NONE);
        due(32, "without cells: 0", x.buried(0, 1), 0);
        x.end(0, 5);
        due(32, "without cells, an end held: NONE", x.buried(0, 0), NONE);
        due(32, "without cells, an end held: 0", x.buried(0, 1), 0);
    }

    /** BAD: it tells more than there are CELLS. */
    private static void buriedTellsAsManyAsThereAre() {
        for (int n = 0; n <= 8; n++) {
            BarSteps x = open(n);
            x.sheet(0, SHORTS, n);
            x.sheet(1, SHORTS, n + 1);
            x.sheet(2, INTS, 40);
            due(32, "as many", x.buried(0, 1), n);
            due(32, "one more", x.buried(1, 1), BAD);
            due(32, "forty", x.buried(2, 0), BAD);
        }
    }

    /** TOLD: whole parts of T now, behind 1 STEP, ..: the first that is otherwise (from 0). */
    private static void toldNow() {
        // 3, 2, 1, 0, -1, -2: a source of -4 and FINE 4
        BarSteps x = bar(0, 1, 1, 3);
        x.set(0, 3, -4);
        int[] numbers = {3, 2, 1, 0, -1, -2, -3, -4, -5, -6};
        row(x, 0, SHORTS, numbers);
        due(33, "all so", x.tells(0, 0, 0), NONE);
        for (int i = 0; i < 10; i++) {
            x.put(0, i, numbers[i] + 1);
            due(33, "more at " + i, x.tells(0, 0, 0), i);
            x.put(0, i, numbers[i] - 1);
            due(33, "less at " + i, x.tells(0, 0, 0), i);
            x.put(0, 9, 77);
            due(33, "the first of two", x.tells(0, 0, 0), i);
            x.put(0, 9, numbers[9]);
            x.put(0, i, numbers[i]);
        }
        // Whole parts below 0: -1/4 is -1
        x = bar(0, 1, 1, 0);
        x.set(0, 3, -1);
        row(x, 0, INTS, 0, -1, -1, -1, -1, -2);
        due(33, "0, -1/4, -1/2, -3/4, -1, -5/4", x.tells(0, 0, 0), NONE);
    }

    /** 10 at most. */
    private static void toldTen() {
        BarSteps x = bar(0, 1, 1, 0);
        for (int size : new int[] {0, 1, 9, 10}) {
            x.sheet(0, INTS, size);
            due(33, "it tells " + size, x.tells(0, 0, 0), NONE);
            due(33, "it tells " + size, x.tells(0, 0, 1), 63);
        }
        for (int size : new int[] {11, 40}) {
            x.sheet(0, INTS, size);
            due(33, "it tells " + size, x.tells(0, 0, 0), BAD);
            due(33, "it tells " + size, x.tells(0, 0, 1), BAD);
        }
        // The last of ten is told behind nine steps
        x.pulse(0, 9, 5);
        row(x, 0, SHORTS, 0, 0, 0, 0, 0, 0, 0, 0, 0, 5);
        due(33, "the last", x.tells(0, 0, 0), NONE);
        x.put(0, 9, 0);
        due(33, "the last", x.tells(0, 0, 0), 9);
    }

    /** Also one whose STEP is SPENT. */
    private static void toldSpent() {
        BarSteps x = atTheBound();
        x.pulse(0, 3, 5);
        row(x, 0, SHORTS, 0, 0, 0, 5);
        due(33, "it would be 5, but it is spent", x.tells(0, 0, 0), 3);
        due(33, "by FINNED alone, which lets all go to the air first", x.tells(0, 0, 1), 8);
        row(x, 0, SHORTS, 0, 0, 0, 0);
        due(33, "nor is it 0", x.tells(0, 0, 0), 3);
        row(x, 0, SHORTS, 0, 1, 0, 5);
        due(33, "one ahead of it", x.tells(0, 0, 0), 1);
        row(x, 0, SHORTS, 0, 0, 0);
        due(33, "all are ahead of it", x.tells(0, 0, 0), NONE);
        // Now, though no step can be reckoned
        x.hush(0);
        x.pulse(0, 1, 5);
        row(x, 0, SHORTS, 0);
        due(33, "now alone", x.tells(0, 0, 0), NONE);
        row(x, 0, SHORTS, 0, 5);
        due(33, "the first step", x.tells(0, 0, 0), 1);
    }

    /** NONE (also of a row that tells none); by all KINDS then. */
    private static void toldNone() {
        BarSteps x = three();
        x.sheet(0, SHORTS, 0);
        x.sheet(1, INTS, 0);
        for (int i = 0; i < 3; i++) {
            due(33, "shorts that tell none", x.tells(0, i, 0), NONE);
            due(33, "ints that tell none", x.tells(1, i, 0), NONE);
            due(33, "by all kinds", x.tells(0, i, 1), 63);
        }
    }

    /** KINDS (bits) of the CELL by which all are so (MADE as that KIND with K, C as they are). */
    private static void toldKinds() {
        // K 7, C 1, held at 0, T 40, FINE 10: SIDES 7, 4, 7, 4, 3, 2; HOLDS 1, 1, 2, 1, 2, 1; a FIN to 0
        BarSteps x = bar(0, 7, 1, 40);
        x.rule(0, 10);
        x.end(0, 0);
        int[] behind = {12, 24, 26, 20, 34, 32};
        for (int kind = 0; kind < 6; kind++) {
            row(x, 0, SHORTS, 40, behind[kind]);
            due(33, "by kind " + kind + " alone", x.tells(0, 0, 1), 1 << kind);
            due(33, "as it is", x.tells(0, 0, 0), kind == 0 ? NONE : 1);
        }
        for (int kind = 0; kind < 6; kind++) {
            x.set(0, 2, kind);
            row(x, 0, SHORTS, 40, behind[kind]);
            due(33, "as it is, kind " + kind, x.tells(0, 0, 0), NONE);
            due(33, "by that alone", x.tells(0, 0, 1), 1 << kind);
            due(33, "the kind stays", x.of(0, 0), kind);
        }
        row(x, 0, SHORTS, 40, 41);
        due(33, "by none", x.tells(0, 0, 1), 0);
        // Only that CELL is taken for another
        x = bar(0, 7, 1, 40, 0, 7, 1, 40);
        row(x, 0, SHORTS, 40, 40);
        x.rule(1, 40);
        due(33, "by all", x.tells(0, 1, 1), 63);
    }

    /** film: n of them (0 .. 10; ints): now, behind 1 STEP, .. */
    private static void filmTen() {
        BarSteps x = bar(0, 1, 1, 3);
        x.set(0, 3, -4);
        due(34, "a missing one becomes so", x.film(2, 0, 10), 10);
        due(34, "of ints", x.load(2, SHORTS, 0, 0), UNLIKE);
        due(34, "of ten", x.put(2, 10, 0), OUTSIDE);
        due(33, "it tells what is", x.tells(2, 0, 0), NONE);
        x.put(2, 9, -7);
        due(33, "-6 was the last", x.tells(2, 0, 0), 9);
        due(34, "of none", x.film(2, 0, 0), 0);
        due(34, "it is there", x.load(2, INTS, 0, 0), 0);
        due(34, "it has none", x.put(2, 0, 0), OUTSIDE);
        fill(x, 2, SHORTS);
        due(34, "forty shorts become one int", x.film(2, 0, 1), 1);
        due(34, "of ints", x.load(2, SHORTS, 0, 0), UNLIKE);
        due(34, "of one", x.put(2, 1, 0), OUTSIDE);
        due(34, "behind no step", x.tells(2, 0, 0), NONE);
        dueParts(34, "T stays", t(x, 0), 3, 1);
        x.film(3, 0, 4);
        x.film(3, 0, 2);
        x.sheet(0, INTS, 4);
        due(34, "the latter counts", x.copy(3, 0, 0, 0, 3), OUTSIDE);
    }

    /**
     * Whether item i of a sheet of ints is v (-1188 .. 999): the bar is given up for one cell that is brought
     * to v, and the next sheet for one that tells just that number.
     */
    private static boolean isItem(BarSteps x, int sheet, int i, int v) {
        while (x.count(0) > 0) {
            x.drop();
        }
        x.end(0, -1);
        x.end(1, -1);
        x.cell(0, 1, 1, Math.max(v, 0));
        for (int left = v; left < 0; left += 99) {
            x.pulse(0, 1, Math.max(left, -99));
        }
        x.step(1);
        int next = (sheet + 1) % 4;
        x.sheet(next, INTS, 1);
        return x.copy(sheet, i, next, 0, 1) == 1 && x.tells(next, 0, 0) == NONE;
    }

    private static void dueItem(int promise, String what, BarSteps x, int i, int v) {
        due(promise, what + ", item " + i + " is " + v + ": 1", isItem(x, 0, i, v) ? 1 : 0, 1);
    }

    /** -999 at least, 999 at most. */
    private static void filmCut() {
        int[] heats = {998, 999, 1000, 1188, -998, -999, -1000, -1188};
        int[] want = {998, 999, 999, 999, -998, -999, -999, -999};
        for (int i = 0; i < heats.length; i++) {
            BarSteps x = reaching(heats[i]);
            x.film(0, 0, 1);
            due(34, "it is told as it is, or not", x.tells(0, 0, 0), heats[i] == want[i] ? NONE : 0);
            dueItem(34, "a film of " + heats[i], x, 0, want[i]);
        }
        BarSteps x = reaching(BOUND);
        x.film(0, 0, 1);
        dueItem(34, "a film of 10^12", x, 0, 999);
        x = reaching(-BOUND);
        x.film(0, 0, 1);
        dueItem(34, "a film of -10^12", x, 0, -999);
        // 999, 999 3/4, 1000 1/2
        x = bar(0, 1, 1, 999);
        x.set(0, 3, 3);
        x.film(0, 0, 3);
        dueItem(34, "a film of 999 3/4", x, 1, 999);
        dueItem(34, "a film of 1000 1/2", x, 2, 999);
        // 0, -998 1/4, -999, -999 3/4
        x = bar(0, 1, 1, 0);
        x.set(0, 3, -3);
        for (int i = 0; i < 10; i++) {
            x.pulse(0, 1, -99);
        }
        x.pulse(0, 1, -8);
        x.film(0, 0, 4);
        dueItem(34, "a film of -998 3/4", x, 1, -999);
        dueItem(34, "a film of -999 1/2", x, 2, -999);
        dueItem(34, "a film of -1000 1/4", x, 3, -999);
    }

    /** STATE: one of these STEPS is SPENT (the SHEET stays); the STEP behind the last of n is none of these. */
    private static void filmSpent() {
        BarSteps x = atTheBound();
        x.pulse(0, 3, 5);
        row(x, 0, INTS, 7, 8);
        due(34, "the third is spent", x.film(0, 0, 4), STATE);
        due(34, "the third is spent", x.film(0, 0, 10), STATE);
        due(34, "two are not", x.film(1, 0, 3), 3);
        due(34, "nor is now", x.film(2, 0, 1), 1);
        due(34, "nor are none", x.film(3, 0, 0), 0);
        due(34, "its size stays", x.put(0, 2, 0), OUTSIDE);
        dueItem(34, "the sheet stays", x, 0, 7);
        x = atTheBound();
        x.pulse(0, 1, 5);
        due(34, "the first is spent", x.film(0, 0, 2), STATE);
        due(34, "a missing one stays", x.put(0, 0, 0), MISSING);
        due(34, "now alone", x.film(0, 0, 1), 1);
    }

    /** z becomes z * 1103515245 + 12345 (an int; SEED at first); (z >>> 20) % 10 more. */
    private static void drawnWraps() {
        // One cell at rest, ends shut: what comes is kept
        BarSteps x = bar(0, 1, 1, 0);
        int[] seeds = {0, 1, -1, GREATEST, LEAST, 42};
        // By SEED 0 z is 12345, then -740551042, -1492899873: 0, 9 and 2 come
        int[] first = {0, 2, 3, 5, 8, 0};
        int[] three = {11, 11, 14, 12, 13, 4};
        int[] twenty = {86, 88, 91, 105, 86, 89};
        for (int i = 0; i < seeds.length; i++) {
            due(35, "by none of " + seeds[i], x.drawn(seeds[i], 0), 0);
            due(35, "by one of " + seeds[i], x.drawn(seeds[i], 1), first[i]);
            due(35, "by three of " + seeds[i], x.drawn(seeds[i], 3), three[i]);
            due(35, "by twenty of " + seeds[i], x.drawn(seeds[i], 20), twenty[i]);
        }
        dueParts(35, "nothing is kept", t(x, 0), 0, 1);
    }

    /** T of CELL (z >>> 9) % how many there are; then the STEP (with PULSES). */
    private static void drawnWhichCell() {
        // By SEED LEAST z is -2147471303: z >>> 9 is 4194328, and 8 come
        int[] which = {0, 0, 1, 0, 3, 4, 5, 0};
        for (int n = 1; n <= 8; n++) {
            // FINE 20 and C 4: the hot one loses no more than 2 times 100 by 80 and, where it has 8 more, 3
            for (int hot = 0; hot < n; hot++) {
                BarSteps x = alike(n, 0, 1, 4, 0);
                x.rule(0, 20);
                x.heat(hot, 100);
                due(35, "cell " + hot + " of " + n, x.drawn(LEAST, 1) > 104 ? 1 : 0, hot == which[n - 1] ? 1 : 0);
            }
        }
        // What comes flows with the STEP: 8 of the first, a fourth of it goes over
        BarSteps x = bar(0, 1, 1, 0, 0, 1, 1, 0);
        due(35, "6 of 8 stay", x.drawn(LEAST, 1), 6);
        x.pulse(1, 1, 9);
        due(35, "2 and 9 by a pulse", x.drawn(LEAST, 1), 11);
        due(35, "the pulse waits", x.count(1), 1);
    }

    /** The whole part of the greatest T in the end; NO: n, no CELLS, a STEP is SPENT. */
    private static void drawnEnds() {
        BarSteps x = bar(0, 1, 1, 0);
        x.set(0, 3, -1);
        // SEED 0 brings 0: -1/4
        due(35, "the whole part of -1/4", x.drawn(0, 1), -1);
        x.set(0, 3, 3);
        due(35, "the whole part of 3/4", x.drawn(0, 1), 0);
        due(35, "21", x.drawn(0, 21), NO);
        due(35, "-1", x.drawn(0, -1), NO);
        x.drop();
        due(35, "no cells", x.drawn(0, 0), NO);
        // SEED 0 brings 0, 9; T over a line of 10^12 may not be above 1
        x = atTheBound();
        due(35, "by one", x.drawn(0, 1), 0);
        due(35, "by two: spent", x.drawn(0, 2), NO);
        due(35, "by twenty: spent", x.drawn(0, 20), NO);
        x.pulse(0, 2, -9);
        due(35, "by two, 9 come and go", x.drawn(0, 2), 0);
    }

    /** THE TAPE: 60 bytes at most; FULL: not all of the n have room (none comes). */
    private static void tapeSixty() {
        for (int room = 0; room <= 5; room++) {
            for (int n = 1; n <= 5; n++) {
                BarSteps x = new BarSteps();
                for (int i = 0; i < 60 - room; i++) {
                    x.feed(1, 32, 0, 0, 0, 0);
                }
                due(36, n + " where " + room + " have room", x.feed(n, 1, 2, 3, 4, 5), n <= room ? 60 - room + n : FULL);
                due(36, "how many are there", x.count(2), n <= room ? 60 - room + n : 60 - room);
            }
        }
        BarSteps x = new BarSteps();
        due(36, "an empty tape", x.count(2), 0);
        due(36, "five to an empty one", x.feed(5, 0, 255, 0, 255, 0), 5);
        due(37, "the tape is empty then", x.text() * 10 + x.count(2), -1000);
        due(36, "from its start again", x.feed(1, 1, 1, 1, 1, 1), 1);
    }

    /** n bytes, a, b, .. come: in that order, and no more of them. */
    private static void feedJustThose() {
        BarSteps x = new BarSteps();
        x.feed(5, 'd', 'r', 'o', 'p', ';');
        x.feed(1, 'd', 'x', 'x', 'x', 'x');
        x.feed(2, 'r', 'o', 'x', 'x', 'x');
        x.feed(3, 'p', ';', 'l', 'x', 'x');
        x.feed(4, 'e', 'f', 't', '7', 'x');
        due(37, "drop;drop;left7", x.text(), 1);
        due(37, "left", x.end(0, -1), 7);
    }

    /** THE TAPE is empty then (by a FAULT, too). */
    private static void textIsEmptyThen() {
        BarSteps x = new BarSteps();
        due(37, "an empty tape", x.text(), -100);
        due(37, "a fault", text(x, "left 5;?"), -107);
        due(37, "it is empty", x.count(2), 0);
        due(37, "nothing was done", x.end(0, -1), -1);
        due(37, "no fault", text(x, "left 5"), 1);
        due(37, "it is empty", x.count(2), 0);
        due(37, "an empty tape again", x.text(), -100);
        due(37, "all refused", text(x, "drop"), 0);
        due(37, "it is empty", x.count(2), 0);
        due(37, "it was done once", x.end(0, -1), 5);
    }

    private static void fault(String text, int place) {
        BarSteps x = new BarSteps();
        due(37, "the fault of [" + text + "]", text(x, text), -100 - place);
        due(37, "the tape is empty", x.count(2), 0);
    }

    private static void done(String text, int clauses) {
        due(37, "clauses done of [" + text + "]", text(new BarSteps(), text), clauses);
    }

    /** TOKENS, each as long as can be. */
    private static void tokensAsLongAsCanBe() {
        fault("dropdrop", 0);
        fault("leftright 1", 0);
        done("left1", 1);
        done("left1;right2;fine3", 3);
        done("left-1", 1);
        done("cell0 1 1-0", 1);
        fault("cell0 1 1", 9);
        fault("cell 0-1-1", 10);
        fault("cell01-1-1", 10);
        done("cell0 1 1 1;heat0 5", 2);
        fault("left1right2", 5);
        fault("left5drop", 5);
        fault("left 1-1", 6);
        fault("left 12 3", 8);
    }

    /** NUMBERS of more than 3 digits are too long: of a NUMBER its first byte, the -, if there is one. */
    private static void numbersTooLong() {
        done("left 999", 1);
        fault("left 1000", 5);
        fault("left 0000", 5);
        done("left 000", 1);
        done("left -000", 1);
        fault("left -0001", 5);
        fault("left  -1000", 6);
        fault("left 99999999999999999999", 5);
        fault("left -99999999999999999999", 5);
        done("left -999", 0);
        done("left 001", 1);
        fault("left 0999", 5);
        fault("cell 0 1 1 1000", 11);
        fault("cell 1000 x", 5);
        fault("drop 1000", 5);
        fault("left 1 2000", 7);
    }

    /** A byte that begins none (of a - without a digit, too). */
    private static void minusAlone() {
        fault("-", 0);
        fault("-1", 0);
        fault("left -", 5);
        fault("left - 1", 5);
        fault("left -\n1", 5);
        fault("left --1", 5);
        fault("left -;", 5);
        fault("left -a", 5);
        fault("left-", 4);
        fault("left 1-", 6);
        fault("left 1 -", 7);
        fault("drop-", 4);
        fault("drop;-", 5);
    }

    private static void bytesThatBeginNone() {
        for (int b = 0; b < 256; b++) {
            boolean blank = b == 32 || b == 10;
            boolean letter = b >= 'a' && b <= 'z';
            boolean digit = b >= '0' && b <= '9';
            BarSteps x = new BarSteps();
            feed(x, "left 5");
            x.feed(1, b, 0, 0, 0, 0);
            // A digit makes it 50 .. 59; a ; wants a clause behind it
            due(37, "left 5 and byte " + b, x.text(), blank || digit ? 1 : b == ';' ? -107 : -106);
            due(37, "left", x.end(0, -1), digit ? 50 + b - '0' : blank ? 5 : -1);
            feed(x, "drop");
            x.feed(1, b, 0, 0, 0, 0);
            due(37, "drop and byte " + b, x.text(), blank ? 0 : letter ? -100 : b == ';' ? -105 : -104);
            x.feed(1, b, 0, 0, 0, 0);
            feed(x, "drop");
            due(37, "byte " + b + " and drop", x.text(), blank ? 0 : -100);
            feed(x, "left");
            x.feed(1, b, 0, 0, 0, 0);
            feed(x, "7");
            due(37, "left, byte " + b + " and 7", x.text(), blank || digit ? 1 : b == '-' ? 0 : letter ? -100 : -104);
        }
    }

    /** Blanks (32, 10) may stand between. */
    private static void blanks() {
        done("\n left \n 5 \n ; \n right \n -1 \n ", 2);
        done("          drop", 0);
        done("drop                                                        ", 0);
        fault("dr op", 0);
        fault("left - 5", 5);
        fault("left\t5", 4);
        fault("left\r5", 4);
        fault("le ft 5", 0);
        fault("                                                            ", 60);
        fault("\n", 1);
        // 1 2 is two numbers, 12 is one
        fault("left 1 2", 7);
        done("left 12", 1);
    }

    /** CLAUSES, one or more, with ; between. */
    private static void clausesBetween() {
        fault("", 0);
        fault(";", 0);
        fault(";drop", 0);
        fault("drop;", 5);
        fault("drop; ", 6);
        fault("drop;;drop", 5);
        fault("drop ; ; drop", 7);
        fault("drop drop", 5);
        fault("left 1 right 1", 7);
        done("drop;drop", 0);
        done("left 1;left 1;left 1;left 1;left 1;left 1;left 1;left 1", 8);
        done("drop;drop;drop;drop;drop;drop;drop;drop;drop;drop;drop;left1", 1);
    }

    /** The text's size, if it ends too early. */
    private static void endsTooEarly() {
        String[] words = {"cell", "heat", "source", "left", "right", "fine", "pulse"};
        int[] numbers = {4, 2, 2, 1, 1, 1, 3};
        for (int i = 0; i < words.length; i++) {
            StringBuilder s = new StringBuilder(words[i]);
            for (int n = 0; n < numbers[i]; n++) {
                fault(s.toString(), s.length());
                fault(s + " \n ", s.length() + 3);
                fault(s + ";", s.length());
                fault(s + " drop", s.length() + 1);
                s.append(" 1");
            }
            BarSteps x = new BarSteps();
            due(37, "just as many numbers: no fault", text(x, s.toString()) >= 0 ? 1 : 0, 1);
        }
    }

    /** A WORD and just as many NUMBERS. */
    private static void tooManyNumbers() {
        fault("cell 1 1 1 1 1", 13);
        fault("heat 1 1 1", 9);
        fault("source 1 1 1", 11);
        fault("left 1 1", 7);
        fault("right 1 1", 8);
        fault("fine 1 1", 7);
        fault("pulse 1 1 1 1", 12);
        fault("drop 1", 5);
        fault("drop1", 4);
        fault("drop -1", 5);
    }

    /** A WORD that is none of these; where a NUMBER is wanted, a WORD can't stand, be it one of these. */
    private static void wordsThatAreNone() {
        for (String word : new String[] {"cel", "cells", "hea", "heats", "sourc", "sources", "lef", "lefts", "righ",
            "rights", "fin", "fines", "puls", "pulses", "dro", "drops", "air", "set", "end", "rule", "a", "z"}) {
            fault(word, 0);
            fault("drop;" + word + " 1", 5);
            fault("left " + word, 5);
        }
        for (String word : new String[] {"cell", "heat", "source", "left", "right", "fine", "pulse", "drop"}) {
            for (int i = 0; i < word.length(); i++) {
                char next = (char) (word.charAt(i) + 1);
                fault(word.substring(0, i) + next + word.substring(i + 1), 0);
                fault("left 1;" + word.substring(0, i) + next + word.substring(i + 1) + " 1 1 1 1", 7);
            }
        }
        fault("Drop", 0);
        fault("dRop", 0);
        fault("droP", 0);
        fault("drop;Left 1", 5);
        fault("1", 0);
        fault("5 left", 0);
        fault("drop;5", 5);
        fault("left left 1", 5);
        fault("cell 1 1 drop", 9);
    }

    /** They are done as if called so: by the last number that each takes. */
    private static void clausesAtTheirRanges() {
        BarSteps x = new BarSteps();
        due(37, "cells", text(x, "cell 0 1 1 0;cell 5 9 4 999"), 2);
        due(37, "the first", x.of(0, 0) * 100 + x.of(0, 1) * 10 + x.of(0, 2), 11);
        due(37, "the second", x.of(1, 0) * 100 + x.of(1, 1) * 10 + x.of(1, 2), 594);
        dueParts(37, "its T", t(x, 1), 999, 1);
        due(37, "heats", text(x, "heat 0 999;heat 1 0"), 2);
        dueParts(37, "T", t(x, 0), 999, 1);
        dueParts(37, "T", t(x, 1), 0, 1);
        due(37, "sources", text(x, "source 0 -9;source 1 9"), 2);
        due(37, "SOURCE", x.of(0, 3) * 10 + x.of(1, 3), -81);
        due(37, "ends", text(x, "left 0;right 999"), 2);
        due(37, "left", x.end(0, 5), 0);
        due(37, "right", x.end(1, 5), 999);
        due(37, "ends, shut", text(x, "left -1;right -1"), 2);
        due(37, "left", x.end(0, 5), -1);
        due(37, "right", x.end(1, 5), -1);
        due(37, "fine", text(x, "fine 1"), 1);
        due(37, "FINE", x.rule(0, 4), 1);
        due(37, "fine", text(x, "fine 20"), 1);
        due(37, "FINE", x.rule(0, 4), 20);
        due(37, "pulses", text(x, "pulse 0 1 -99;pulse 1 20 99"), 2);
        due(37, "the first", x.pulseOf(0, 0) * 10000 + x.pulseOf(0, 1) * 1000 + x.pulseOf(0, 2), 901);
        due(37, "the second", x.pulseOf(1, 0) * 10000 + x.pulseOf(1, 1) * 1000 + x.pulseOf(1, 2), 30099);
        due(37, "drops", text(x, "drop;drop"), 2);
        due(37, "none is left", x.count(0) + x.count(1), 0);
    }

    /** Those that would be refused aren't; the others are. */
    private static void clausesRefused() {
        String[] refused = {"cell 6 1 1 1", "cell -1 1 1 1", "cell 0 0 1 1", "cell 0 10 1 1", "cell 0 1 0 1",
            "cell 0 1 5 1", "cell 0 1 1 -1", "heat 2 5", "heat -1 5", "heat 0 -1", "source 2 5", "source -1 5",
            "source 0 10", "source 0 -10", "left -2", "right -2", "fine 0", "fine 21", "fine -1", "pulse 2 1 1",
            "pulse -1 1 1", "pulse 0 0 1", "pulse 0 21 1", "pulse 0 1 100", "pulse 0 1 -100"};
        for (String clause : refused) {
            java.util.function.Supplier<BarSteps> make = () -> alike(2, 0, 1, 1, 5);
            due(37, clause + " is refused", text(make.get(), clause), 0);
            due(37, clause + " changes nothing: 1", Probe.isUnchanged(make, x -> text(x, clause)) ? 1 : 0, 1);
            BarSteps x = make.get();
            due(37, "the others of " + clause + " are done", text(x, "left 3;" + clause + ";right 4"), 2);
            due(37, "ahead of it", x.end(0, -1), 3);
            due(37, "behind it", x.end(1, -1), 4);
        }
        done("drop", 0);
        BarSteps x = full();
        x.text();
        due(37, "twelve drops of 8 cells", x.count(0), 0);
        x = alike(8, 0, 1, 1, 5);
        due(37, "a ninth", text(x, "cell 0 1 1 1"), 0);
        due(37, "8 and one dropped ahead", text(x, "drop;cell 0 1 1 1;cell 0 1 1 1"), 2);
        for (int i = 0; i < 12; i++) {
            x.pulse(0, 1, 1);
        }
        due(37, "a thirteenth", text(x, "pulse 0 1 1"), 0);
        due(37, "a cell that came ahead is heated", text(new BarSteps(), "cell 0 1 1 1;heat 0 2;heat 1 2"), 2);
    }

    private static void sixtyBytesOfText() {
        String sixty = "cell 0 1 1 1;cell 0 1 1 2;cell 0 1 1 3;heat 0 99;heat 1 98  ";
        String full = sixty.substring(0, 60);
        BarSteps x = new BarSteps();
        due(37, "sixty bytes are there", feed(x, full), 60);
        due(37, "five clauses", x.text(), 5);
        dueParts(37, "the last one", t(x, 1), 98, 1);
        due(37, "a fault at the last byte", text(x, full.substring(0, 59) + "?"), -159);
        due(37, "too early behind the last byte", text(x, full.substring(0, 59) + ";"), -160);
        due(37, "three cells still", x.count(0), 3);
    }

    /** A full tape that ends at each kind of TOKEN: nothing is read behind its 60 bytes. */
    private static void lastOfSixtyBytes() {
        String[] ends = {"left", "left ", "left 5", "left 5 ", "left 555", "left -", "left -5", "left 5555", "drop",
            "drop;", "drop ", "cell 1 1 1", "pulse 1 1", "dro", "?", ";"};
        int[] want = {-160, -160, 1, 1, 1, -159, 0, -156, 0, -160, 0, -160, -160, -157, -159, -159};
        for (int i = 0; i < ends.length; i++) {
            BarSteps x = new BarSteps();
            due(37, "sixty bytes", feed(x, " ".repeat(60 - ends[i].length()) + ends[i]), 60);
            due(37, "sixty bytes that end with [" + ends[i] + "]", x.text(), want[i]);
        }
    }

    /** THE TAPE is empty then: nothing of a longer text is read behind the end of a shorter one. */
    private static void shorterTexts() {
        BarSteps x = new BarSteps();
        text(x, "left 555;right 5");
        due(37, "left 5, not 555", text(x, "left 5"), 1);
        due(37, "left", x.end(0, -1), 5);
        text(x, "left -55");
        due(37, "too early, ahead of -55", text(x, "left"), -104);
        text(x, "left -55");
        due(37, "too early, ahead of -55", text(x, "left "), -105);
        text(x, "left -55");
        due(37, "a - alone, ahead of 55", text(x, "left -"), -105);
        text(x, "drop;drop");
        due(37, "too early, ahead of drop", text(x, "drop;"), -105);
        due(37, "a part of a word", text(x, "dro"), -100);
    }

    /** AN IMAGE: as they are then; a later one takes its place. */
    private static void imageIsReplaced() {
        BarSteps x = new BarSteps();
        due(39, "there is none", x.back(), STATE);
        due(38, "of nothing", x.image(), 0);
        due(39, "of nothing", x.back(), 0);
        for (int i = 0; i < 8; i++) {
            x.cell(0, 1, 1, i);
        }
        due(39, "of nothing still", x.back(), 0);
        due(39, "no cells", x.count(0), 0);
        x = full();
        due(38, "of 8", x.image(), 8);
        for (int i = 0; i < 8; i++) {
            x.drop();
        }
        due(39, "8 are back", x.back(), 8);
        due(39, "and 12 pulses", x.count(1), 12);
        due(39, "which have their order", x.pulseOf(0, 1) * 100 + x.pulseOf(11, 1), 112);
        x.drop();
        due(38, "of 7", x.image(), 7);
        x.cell(0, 1, 1, 1);
        due(39, "7 are back", x.back(), 7);
        due(39, "and again", x.back(), 7);
        // Heats over the line that they had
        x = atTheBound();
        x.image();
        x.heat(0, 3);
        due(39, "back", x.back(), 1);
        dueParts(39, "T", t(x, 0), ABOVE_AT_THE_BOUND, BOUND);
        due(39, "the line", x.line(), BOUND);
    }

    /** All that it keeps is as in THE IMAGE, whatever became of it. */
    private static void imageKeepsAll() {
        java.util.function.Supplier<BarSteps> make = () -> {
            BarSteps x = rich();
            x.image();
            return x;
        };
        due(39, "all is as it was: 1", Probe.isUnchanged(make, x -> {
            x.set(0, 2, 5);
            x.set(1, 0, 1);
            x.set(2, 1, 4);
            x.set(0, 3, 9);
            x.heat(1, 1);
            x.end(0, 7);
            x.end(1, 8);
            x.rule(0, 1);
            x.rule(1, 2);
            x.hush(2);
            x.pulse(0, 9, 9);
            x.step(1);
            x.cell(0, 1, 1, 1);
            return x.back();
        }) ? 1 : 0, 1);
        due(39, "all is as it was, by fewer: 1", Probe.isUnchanged(make, x -> {
            while (x.count(0) > 0) {
                x.drop();
            }
            return x.back();
        }) ? 1 : 0, 1);
        due(39, "all is as it was, by others: 1", Probe.isUnchanged(make, x -> {
            while (x.count(0) > 0) {
                x.drop();
            }
            for (int i = 0; i < 8; i++) {
                x.cell(4, 9, 4, i);
                x.set(i, 3, i);
                x.pulse(i, 1, i);
            }
            return x.back();
        }) ? 1 : 0, 1);
    }

    /** It keeps CELLS, ENDS, RULES, PULSES; not THE TAPE, not SHEETS, not THE IMAGE itself. */
    private static void imageKeepsNoSheets() {
        BarSteps x = new BarSteps();
        x.image();
        row(x, 0, SHORTS, 1, 2);
        x.feed(2, 1, 1, 1, 1, 1);
        due(39, "back", x.back(), 0);
        due(39, "the sheet stays", x.put(0, 1, 1), 1);
        due(39, "the tape stays", x.count(2), 2);
        due(39, "the image stays", x.back(), 0);
    }

    /** From one on, four a CELL (KIND, K, C, T), n of them: how many came (others are left out). */
    private static void loadFourACell() {
        BarSteps x = new BarSteps();
        row(x, 0, SHORTS, 5, 9, 4, 999, 0, 1, 1, 0, 6, 1, 1, 0, 0, 10, 1, 0, 0, 1, 5, 0, 0, 1, 1, 1000, -1, 1, 1, 0,
            1, 65538, 3, 4);
        due(40, "eight, five are left out", x.load(0, SHORTS, 0, 8), 3);
        due(40, "the first", x.of(0, 0) * 100 + x.of(0, 1) * 10 + x.of(0, 2), 594);
        dueParts(40, "its T", t(x, 0), 999, 1);
        due(40, "the second", x.of(1, 0) * 100 + x.of(1, 1) * 10 + x.of(1, 2), 11);
        due(40, "the last, its lowest bits", x.of(2, 0) * 100 + x.of(2, 1) * 10 + x.of(2, 2), 123);
        due(40, "none of them", x.load(0, SHORTS, 0, 0), 0);
        due(40, "from the last four", x.load(0, SHORTS, 28, 1), 1);
        due(40, "behind them", x.load(0, SHORTS, 29, 1), OUTSIDE);
        due(40, "from there with n 0", x.load(0, SHORTS, 29, 0), 0);
        due(40, "what stood ahead came", x.load(0, SHORTS, 28, 2), OUTSIDE);
        due(40, "it came", x.count(0), 5);
        due(40, "what stood ahead was left out", x.load(0, SHORTS, 24, 3), OUTSIDE);
        due(40, "it and one behind it", x.count(0), 6);
        row(x, 1, INTS, 1, 65538, 3, 4);
        due(40, "an int is all of it", x.load(1, INTS, 0, 1), 0);
        x.sheet(2, INTS, 0);
        due(40, "of none, n 0", x.load(2, INTS, 0, 0), 0);
        due(40, "of none, n 1", x.load(2, INTS, 0, 1), OUTSIDE);
        x.sheet(2, INTS, 3);
        due(40, "of three, n 1", x.load(2, INTS, 0, 1), OUTSIDE);
        // Two have room, six are left out
        fill(x, 3, INTS);
        due(40, "those that have room", x.load(3, INTS, 0, 8), 2);
        due(40, "8 are there", x.count(0), 8);
    }

    /** A SHEET becomes a row of n of a sort, all 0, or missing. */
    private static void sheetsAnew() {
        BarSteps x = bar(0, 1, 1, 0);
        for (int sort = 0; sort < 2; sort++) {
            fill(x, 0, sort);
            due(42, "anew", x.sheet(0, sort, 10), 1);
            due(42, "all 0", x.tells(0, 0, 0), NONE);
            due(42, "of ten", x.put(0, 10, 0), OUTSIDE);
            fill(x, 0, 1 - sort);
            due(42, "of another sort", x.sheet(0, sort, 10), 1);
            due(42, "all 0", x.tells(0, 0, 0), NONE);
            due(42, "of that sort", x.load(0, sort, 0, 0), 0);
            due(42, "greater again", x.sheet(0, sort, 40), 1);
            due(42, "of forty", x.put(0, 39, 0) + x.put(0, 40, 0), 1 + OUTSIDE);
            due(42, "missing", x.sheet(0, -1, 0), 1);
            due(42, "missing", x.put(0, 0, 0), MISSING);
            due(42, "missing again", x.sheet(0, -1, 7), 1);
            due(42, "of none", x.sheet(0, sort, 0), 1);
            due(42, "it is not missing", x.put(0, 0, 0), OUTSIDE);
        }
        // What was behind a smaller size is 0, as it grows
        fill(x, 0, SHORTS);
        x.sheet(0, SHORTS, 1);
        x.sheet(0, SHORTS, 10);
        due(42, "all 0", x.tells(0, 0, 0), NONE);
        // By sheet and by film alike
        x.sheet(1, INTS, 10);
        x.put(1, 9, 5);
        x.film(1, 0, 1);
        x.sheet(1, INTS, 10);
        due(42, "all 0", x.tells(1, 0, 0), NONE);
        due(42, "each has its own", x.put(0, 0, 5) + x.tells(1, 0, 0), 0);
    }

    /** Of shorts its lowest 16 bits. */
    private static void putLowestBits() {
        int[][] shorts = {{32767, 32767}, {32768, -32768}, {65535, -1}, {65536, 0}, {65537, 1}, {-1, -1},
            {-32768, -32768}, {-32769, 32767}, {-65536, 0}, {GREATEST, -1}, {LEAST, 0}};
        for (int[] s : shorts) {
            BarSteps x = reaching(s[1]);
            dueParts(43, "T", t(x, 0), s[1], 1);
            row(x, 0, SHORTS, s[0]);
            due(43, "a short of " + s[0], x.tells(0, 0, 0), NONE);
            x.sheet(1, SHORTS, 1);
            x.copy(0, 0, 1, 0, 1);
            due(43, "and its copy", x.tells(1, 0, 0), NONE);
            row(x, 0, INTS, s[1]);
            due(43, "an int of " + s[1], x.tells(0, 0, 0), NONE);
            row(x, 0, INTS, s[0]);
            due(43, "an int of " + s[0], x.tells(0, 0, 0), s[0] == s[1] ? NONE : 0);
        }
        for (int v : new int[] {GREATEST, LEAST, 32768, 65536, -32769}) {
            BarSteps x = reaching(v);
            row(x, 0, INTS, v);
            due(43, "an int of " + v, x.tells(0, 0, 0), NONE);
            row(x, 0, SHORTS, v);
            due(43, "a short is not " + v, x.tells(0, 0, 0), 0);
        }
        // T of 2^32 is told by no int, though its lowest 32 bits are 0
        BarSteps x = reaching(1L << 32);
        row(x, 0, INTS, 0);
        due(33, "2^32 is not 0", x.tells(0, 0, 0), 0);
    }

    /** n numbers come to another one's item j on (as they were), be it the same SHEET. */
    private static void copyAsTheyWere() {
        // A source of 4: T is 0, 1, 2, ..; what is told from a number on is read behind so many steps
        for (int to = 0; to <= 5; to++) {
            BarSteps x = bar(0, 1, 1, 0);
            x.set(0, 3, 4);
            row(x, 0, SHORTS, 0, 1, 2, 3, 4, 5, 6, 7, 8, 9);
            due(44, "from 2 to " + to, x.copy(0, 2, 0, to, 5), 5);
            for (int i = 0; i < 10; i++) {
                x.heat(0, i >= to && i < to + 5 ? i - to + 2 : i);
                x.sheet(1, SHORTS, 1);
                x.copy(0, i, 1, 0, 1);
                due(44, "from 2 to " + to + ", item " + i, x.tells(1, 0, 0), NONE);
            }
        }
        BarSteps x = bar(0, 1, 1, 0);
        fill(x, 0, INTS);
        x.sheet(1, INTS, 40);
        due(44, "forty of forty", x.copy(0, 0, 1, 0, 40), 40);
        due(44, "they are cells", x.load(1, INTS, 12, 7), 7);
        due(44, "the last to the first", x.copy(0, 39, 1, 0, 1), 1);
        due(44, "the first to the last", x.copy(0, 0, 1, 39, 1), 1);
        x.drop();
        due(44, "the one stays", x.load(0, INTS, 36, 1), 1);
        due(44, "T of what it tells", x.t(7, 0), 4);
    }

    /** With n 0 nothing comes; a place right behind the last is not outside then, one behind that is. */
    private static void copyOfNone() {
        BarSteps x = new BarSteps();
        x.sheet(0, SHORTS, 3);
        x.sheet(1, SHORTS, 0);
        due(44, "to a sheet of size 0", x.copy(0, 0, 1, 0, 0), 0);
        due(44, "from a sheet of size 0", x.copy(1, 0, 0, 0, 0), 0);
        due(44, "one from a sheet of size 0", x.copy(1, 0, 0, 0, 1), OUTSIDE);
        due(44, "one to a sheet of size 0", x.copy(0, 0, 1, 0, 1), OUTSIDE);
        due(44, "right behind the last", x.copy(0, 3, 0, 3, 0), 0);
        due(44, "further on", x.copy(0, 4, 0, 0, 0), OUTSIDE);
        due(44, "further on", x.copy(0, 0, 0, 4, 0), OUTSIDE);
        due(44, "ahead of the first", x.copy(0, -1, 0, 0, 0), OUTSIDE);
        due(44, "ahead of the first", x.copy(0, 0, 0, -1, 0), OUTSIDE);
    }
}
