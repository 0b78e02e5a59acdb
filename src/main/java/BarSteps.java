/**
 * A heated bar, cell behind cell, whose heats are exact fractions. DOC.md tells
 * what each call answers; the words in capitals are the document's.
 */
public final class BarSteps {
    public static final int NONE = -1, BAD = -2, STATE = -3, FULL = -4;
    public static final long NO = Long.MIN_VALUE;

    private static final int NO_SUCH = -1000;
    private static final int SHEET_MISSING = -11, OUTSIDE = -12, UNLIKE = -13, SIZE_BELOW_0 = -14;

    private static final int MAX_CELLS = 8, MAX_PULSES = 12, MAX_TAPE = 60;
    private static final int MAX_SHEETS = 4, MAX_ITEMS = 40;
    private static final int MAX_STEPS = 40, MAX_TOLD = 10, MAX_DRAWN = 20;
    private static final int MAX_HEAT = 999, MAX_SOURCE = 9;
    private static final int KINDS = 6;

    private static final int SHUT = -1;
    private static final int NO_SORT = -1, SHORTS = 0, INTS = 1;

    private static final long LIMIT = 1000000000000L;

    /** A multiple of every HOLDS there can be (1, 2, 3, 4, 6, 8). */
    private static final int ALL_HOLDS = 24;

    /** What a STEP answers that was done; one that is SPENT answers its LARGE. */
    private static final int DONE = -2;

    private static final int WORD_CELL = 0, WORD_HEAT = 1, WORD_SOURCE = 2, WORD_LEFT = 3;
    private static final int WORD_RIGHT = 4, WORD_FINE = 5, WORD_PULSE = 6, WORD_DROP = 7;
    private static final int WORDS = 8;

    private final Bar bar;
    private final Bar thought;
    private final Bar kept;
    private final Steady rest;
    private final Sheets sheets;
    private final Tape tape;
    private final int[] filmed;
    private boolean hasImage;

    public BarSteps() {
        bar = new Bar();
        thought = new Bar();
        kept = new Bar();
        rest = new Steady();
        sheets = new Sheets();
        tape = new Tape();
        filmed = new int[MAX_TOLD];
        hasImage = false;
    }

    // ---- cells, ends, rules

    public int cell(int kind, int k, int c, int heat) {
        boolean good = isKind(kind) && isK(k) && isC(c) && isHeat(heat);
        return good ? bar.append(kind, k, c, heat) : BAD;
    }

    public int drop() {
        if (bar.cells == 0) {
            return STATE;
        }
        bar.removeLatest();
        return bar.cells;
    }

    public int set(int cell, int what, int v) {
        if (!bar.has(cell)) {
            return NO_SUCH;
        }
        switch (what) {
            case 0:
                return isK(v) ? bar.changeK(cell, v) : NO_SUCH;
            case 1:
                return isC(v) ? bar.changeC(cell, v) : NO_SUCH;
            case 2:
                return isKind(v) ? bar.changeKind(cell, v) : NO_SUCH;
            case 3:
                return isSource(v) ? bar.changeSource(cell, v) : NO_SUCH;
            default:
                return NO_SUCH;
        }
    }

    public int heat(int cell, int v) {
        if (!bar.has(cell) || !isHeat(v)) {
            return BAD;
        }
        bar.changeHeat(cell, v);
        return 1;
    }

    public int of(int cell, int what) {
        if (!bar.has(cell)) {
            return NO_SUCH;
        }
        switch (what) {
            case 0:
                return bar.kind[cell];
            case 1:
                return bar.k[cell];
            case 2:
                return bar.c[cell];
            case 3:
                return bar.source[cell];
            case 4:
                return bar.side[cell];
            case 5:
                return bar.holds[cell];
            case 6:
                return bar.fin[cell];
            case 7:
                return Kinds.madeOf(bar.kind[cell], bar.c[cell]);
            default:
                return NO_SUCH;
        }
    }

    public int taken(int cell, int k) {
        if (!bar.has(cell) || !isKind(k)) {
            return BAD;
        }
        return Kinds.isUnder(bar.kind[cell], k) ? bar.k[cell] : UNLIKE;
    }

    public int kin(int kind) {
        return isKind(kind) ? Kinds.lineOf(kind) : BAD;
    }

    public int end(int side, int v) {
        if (!isBit(side) || !between(v, SHUT, MAX_HEAT)) {
            return NO_SUCH;
        }
        int was = bar.ends[side];
        bar.ends[side] = v;
        return was;
    }

    public int rule(int rule, int v) {
        int was = NO_SUCH;
        if (rule == 0 && between(v, 1, 20)) {
            was = bar.fine;
            bar.fine = v;
        } else if (rule == 1 && isHeat(v)) {
            was = bar.air;
            bar.air = v;
        }
        return was;
    }

    // ---- heats as they are

    public long t(int cell, int part) {
        if (!bar.has(cell) || !isBit(part)) {
            return NO;
        }
        return partOf(bar.above[cell], bar.below, part);
    }

    public long line() {
        return bar.below;
    }

    public int joint(int i) {
        return bar.leads(i);
    }

    public long flow(int i, int part) {
        if (!bar.hasJoint(i) || !isBit(part)) {
            return NO;
        }
        return partOf(bar.flowAbove(i, bar.above, bar.below), bar.below, part);
    }

    public int stable(int cell) {
        if (cell != NONE && !bar.has(cell)) {
            return BAD;
        }
        int first = cell == NONE ? 0 : cell;
        int last = cell == NONE ? bar.cells - 1 : cell;
        for (int i = first; i <= last; i++) {
            if (bar.loss(i) > bar.holds[i] * bar.fine) {
                return 0;
            }
        }
        return 1;
    }

    public int need() {
        int least = 1;
        for (int i = 0; i < bar.cells; i++) {
            int holds = bar.holds[i];
            int roundedUp = (int) quotient(bar.loss(i) + holds - 1, holds);
            least = Math.max(least, roundedUp);
        }
        return least;
    }

    public long sum(int part) {
        if (!isBit(part)) {
            return NO;
        }
        long all = 0;
        for (int i = 0; i < bar.cells; i++) {
            all += bar.holds[i] * bar.above[i];
        }
        return partOf(all, bar.below, part);
    }

    public int most(int what) {
        if (!isBit(what)) {
            return BAD;
        }
        return what == 0 ? bar.hottestCell() : bar.coldestCell();
    }

    // ---- steps

    public int step(int n) {
        if (!between(n, 1, MAX_STEPS)) {
            return BAD;
        }
        if (bar.cells == 0) {
            return STATE;
        }
        return stepsDone(bar, n);
    }

    public long then(int n, int cell, int part) {
        if (!between(n, 0, MAX_STEPS) || !bar.has(cell) || !isBit(part)) {
            return NO;
        }
        thought.become(bar);
        if (stepsDone(thought, n) < n) {
            return NO;
        }
        return partOf(thought.above[cell], thought.below, part);
    }

    public int spent(int what) {
        if (!isBit(what)) {
            return BAD;
        }
        thought.become(bar);
        for (int step = 1; step <= MAX_STEPS; step++) {
            int large = thought.advance();
            if (large != DONE) {
                return what == 0 ? step : large;
            }
        }
        return NONE;
    }

    public int rises(int n) {
        if (!between(n, 1, MAX_STEPS)) {
            return BAD;
        }
        if (bar.cells == 0) {
            return STATE;
        }
        thought.become(bar);
        for (int step = 1; step <= n; step++) {
            long topAhead = thought.greatest();
            long lineAhead = thought.below;
            if (thought.advance() != DONE) {
                return NONE;
            }
            if (thought.isRisenFrom(topAhead, lineAhead)) {
                return step;
            }
        }
        return NONE;
    }

    public int calm(int v) {
        if (!isHeat(v)) {
            return BAD;
        }
        if (bar.cells == 0) {
            return STATE;
        }
        thought.become(bar);
        for (int step = 0; step <= MAX_STEPS; step++) {
            if (thought.greatest() - thought.least() <= v * thought.below) {
                return step;
            }
            if (thought.advance() != DONE) {
                return NONE;
            }
        }
        return NONE;
    }

    // ---- pulses

    public int pulse(int cell, int due, int heat) {
        boolean good = bar.has(cell) && between(due, 1, 20) && between(heat, -99, 99);
        return good ? bar.pulses.append(cell, due, heat) : BAD;
    }

    public int pulseOf(int i, int what) {
        if (i < 0 || i >= bar.pulses.size) {
            return NO_SUCH;
        }
        switch (what) {
            case 0:
                return bar.pulses.cell[i];
            case 1:
                return bar.pulses.due[i];
            case 2:
                return bar.pulses.heat[i];
            default:
                return NO_SUCH;
        }
    }

    public int hush(int cell) {
        return bar.has(cell) ? bar.pulses.removeOf(cell) : BAD;
    }

    // ---- steady heats

    public long steady(int cell, int part) {
        if (!bar.has(cell) || !isBit(part) || !bar.canRest()) {
            return NO;
        }
        rest.solve(bar);
        return partOf(rest.above[cell], rest.below, part);
    }

    public long steadyFlow(int i, int part) {
        if (!bar.hasJoint(i) || !isBit(part) || !bar.canRest()) {
            return NO;
        }
        rest.solve(bar);
        return partOf(bar.flowAbove(i, rest.above, rest.below), rest.below, part);
    }

    public int hottest() {
        if (!bar.canRest()) {
            return NONE;
        }
        rest.solve(bar);
        return firstGreatest(rest.above, bar.cells);
    }

    public int lay() {
        if (!bar.canRest()) {
            return STATE;
        }
        rest.solve(bar);
        return bar.takeHeats(rest.above, rest.below) == DONE ? 1 : FULL;
    }

    public int isSteady() {
        for (int i = 0; i < bar.cells; i++) {
            if (bar.gain(i) != 0) {
                return 0;
            }
        }
        return 1;
    }

    public int buried(int sheet, int what) {
        if (!isSheet(sheet) || !isBit(what)) {
            return BAD;
        }
        if (sheets.isMissing(sheet)) {
            return SHEET_MISSING;
        }
        if (sheets.size[sheet] > bar.cells) {
            return BAD;
        }
        if (bar.cells > 0 && !bar.canRest()) {
            return STATE;
        }
        return what == 0 ? firstBuried(sheet) : howManyBuried(sheet);
    }

    private int firstBuried(int sheet) {
        thought.become(bar);
        for (int i = 0; i < bar.cells; i++) {
            for (int v = -MAX_SOURCE; v <= MAX_SOURCE; v++) {
                if (mayBeBuried(sheet, i, v)) {
                    return 100 * i + v + MAX_SOURCE;
                }
            }
            thought.source[i] = bar.source[i];
        }
        return NONE;
    }

    private int howManyBuried(int sheet) {
        thought.become(bar);
        int found = 0;
        for (int i = 0; i < bar.cells; i++) {
            for (int v = -MAX_SOURCE; v <= MAX_SOURCE; v++) {
                found += mayBeBuried(sheet, i, v) ? 1 : 0;
            }
            thought.source[i] = bar.source[i];
        }
        return found;
    }

    private boolean mayBeBuried(int sheet, int cell, int v) {
        thought.source[cell] = v;
        rest.solve(thought);
        for (int i = 0; i < sheets.size[sheet]; i++) {
            if (wholePart(rest.above[i], rest.below) != sheets.items[sheet][i]) {
                return false;
            }
        }
        return true;
    }

    // ---- what was told, lots

    public int tells(int sheet, int cell, int what) {
        if (!isSheet(sheet) || !bar.has(cell) || !isBit(what)) {
            return BAD;
        }
        if (sheets.isMissing(sheet)) {
            return SHEET_MISSING;
        }
        if (sheets.size[sheet] > MAX_TOLD) {
            return BAD;
        }
        if (what == 0) {
            return firstOtherwise(sheet, cell, bar.kind[cell]);
        }
        int kinds = 0;
        for (int kind = 0; kind < KINDS; kind++) {
            if (firstOtherwise(sheet, cell, kind) == NONE) {
                kinds |= 1 << kind;
            }
        }
        return kinds;
    }

    private int firstOtherwise(int sheet, int cell, int kind) {
        thought.become(bar);
        thought.changeKind(cell, kind);
        for (int i = 0; i < sheets.size[sheet]; i++) {
            if (i > 0 && thought.advance() != DONE) {
                return i;
            }
            if (wholePart(thought.above[cell], thought.below) != sheets.items[sheet][i]) {
                return i;
            }
        }
        return NONE;
    }

    public int film(int sheet, int cell, int n) {
        if (!isSheet(sheet) || !bar.has(cell) || !between(n, 0, MAX_TOLD)) {
            return BAD;
        }
        thought.become(bar);
        for (int i = 0; i < n; i++) {
            if (i > 0 && thought.advance() != DONE) {
                return STATE;
            }
            long whole = wholePart(thought.above[cell], thought.below);
            filmed[i] = (int) Math.max(-MAX_HEAT, Math.min(MAX_HEAT, whole));
        }
        sheets.renew(sheet, INTS, n);
        System.arraycopy(filmed, 0, sheets.items[sheet], 0, n);
        return n;
    }

    public long drawn(int seed, int n) {
        if (!between(n, 0, MAX_DRAWN) || bar.cells == 0) {
            return NO;
        }
        thought.become(bar);
        int z = seed;
        for (int step = 0; step < n; step++) {
            z = z * 1103515245 + 12345;
            thought.warm((int) remainder(z >>> 9, bar.cells), (z >>> 20) % 10);
            if (thought.advance() != DONE) {
                return NO;
            }
        }
        return wholePart(thought.greatest(), thought.below);
    }

    // ---- texts

    public int feed(int n, int a, int b, int c, int d, int e) {
        boolean bytes = isByte(a) && isByte(b) && isByte(c) && isByte(d) && isByte(e);
        if (!between(n, 1, 5) || !bytes) {
            return BAD;
        }
        if (tape.size + n > MAX_TAPE) {
            return FULL;
        }
        int upTo = tape.size + n;
        tape.append(a, upTo);
        tape.append(b, upTo);
        tape.append(c, upTo);
        tape.append(d, upTo);
        tape.append(e, upTo);
        return tape.size;
    }

    public int text() {
        int fault = tape.read();
        tape.size = 0;
        return fault == NONE ? clausesDone() : -100 - fault;
    }

    private int clausesDone() {
        int done = 0;
        int place = 0;
        for (int clause = 0; clause < MAX_TAPE && place < tape.planned; clause++) {
            done += isClauseDone(place) ? 1 : 0;
            place += 1 + Tape.numbersOf(tape.planAt(place));
        }
        return done;
    }

    /** Does the clause that stands at a place of the tape's plan, unless its call is refused. */
    private boolean isClauseDone(int place) {
        int first = tape.planAt(place + 1);
        int second = tape.planAt(place + 2);
        int third = tape.planAt(place + 3);
        switch (tape.planAt(place)) {
            case WORD_CELL:
                return cell(first, second, third, tape.planAt(place + 4)) >= 0;
            case WORD_HEAT:
                return heat(first, second) == 1;
            case WORD_SOURCE:
                return set(first, 3, second) != NO_SUCH;
            case WORD_LEFT:
                return end(0, first) != NO_SUCH;
            case WORD_RIGHT:
                return end(1, first) != NO_SUCH;
            case WORD_FINE:
                return rule(0, first) != NO_SUCH;
            case WORD_PULSE:
                return pulse(first, second, third) >= 0;
            case WORD_DROP:
                return drop() >= 0;
            default:
                return false;
        }
    }

    // ---- the image, the host

    public int image() {
        kept.become(bar);
        hasImage = true;
        return kept.cells;
    }

    public int back() {
        if (!hasImage) {
            return STATE;
        }
        bar.become(kept);
        return bar.cells;
    }

    public int load(int sheet, int sort, int from, int n) {
        if (!isSheet(sheet) || !isBit(sort) || !between(n, 0, MAX_CELLS)) {
            return BAD;
        }
        if (sheets.isMissing(sheet)) {
            return SHEET_MISSING;
        }
        if (sheets.sort[sheet] != sort) {
            return UNLIKE;
        }
        int came = 0;
        for (int i = 0; i < n; i++) {
            int at = from + 4 * i;
            if (!sheets.has(sheet, at) || !sheets.has(sheet, at + 3)) {
                return OUTSIDE;
            }
            int[] row = sheets.items[sheet];
            came += cell(row[at], row[at + 1], row[at + 2], row[at + 3]) >= 0 ? 1 : 0;
        }
        return came;
    }

    public int count(int what) {
        switch (what) {
            case 0:
                return bar.cells;
            case 1:
                return bar.pulses.size;
            case 2:
                return tape.size;
            case 3:
                return total(bar.pulses.heat, bar.pulses.size);
            case 4:
                return total(bar.fin, bar.cells);
            case 5:
                return total(bar.source, bar.cells);
            default:
                return NO_SUCH;
        }
    }

    public int sheet(int sheet, int sort, int n) {
        if (!isSheet(sheet) || !between(sort, NO_SORT, INTS)) {
            return BAD;
        }
        if (sort == NO_SORT) {
            sheets.renew(sheet, NO_SORT, 0);
            return 1;
        }
        if (n > MAX_ITEMS) {
            return BAD;
        }
        if (n < 0) {
            return SIZE_BELOW_0;
        }
        sheets.renew(sheet, sort, n);
        return 1;
    }

    public int put(int sheet, int i, int v) {
        if (!isSheet(sheet)) {
            return BAD;
        }
        if (sheets.isMissing(sheet)) {
            return SHEET_MISSING;
        }
        if (!sheets.has(sheet, i)) {
            return OUTSIDE;
        }
        sheets.items[sheet][i] = sheets.sort[sheet] == SHORTS ? (short) v : v;
        return 1;
    }

    public int copy(int sheet, int i, int other, int j, int n) {
        if (!isSheet(sheet) || !isSheet(other)) {
            return BAD;
        }
        if (sheets.isMissing(sheet) || sheets.isMissing(other)) {
            return SHEET_MISSING;
        }
        if (sheets.sort[sheet] != sheets.sort[other]) {
            return UNLIKE;
        }
        if (!sheets.hasRun(sheet, i, n) || !sheets.hasRun(other, j, n)) {
            return OUTSIDE;
        }
        System.arraycopy(sheets.items[sheet], i, sheets.items[other], j, n);
        return n;
    }

    // ---- what numbers may be

    private static boolean between(int v, int least, int greatest) {
        return v >= least && v <= greatest;
    }

    private static boolean isKind(int v) {
        return between(v, 0, KINDS - 1);
    }

    private static boolean isK(int v) {
        return between(v, 1, 9);
    }

    private static boolean isC(int v) {
        return between(v, 1, 4);
    }

    private static boolean isSource(int v) {
        return between(v, -MAX_SOURCE, MAX_SOURCE);
    }

    private static boolean isHeat(int v) {
        return between(v, 0, MAX_HEAT);
    }

    /** Sides, parts, sorts and many a what are 0 or 1. */
    private static boolean isBit(int v) {
        return v == 0 || v == 1;
    }

    private static boolean isByte(int v) {
        return between(v, 0, 255);
    }

    private static boolean isSheet(int v) {
        return between(v, 0, MAX_SHEETS - 1);
    }

    // ---- reckoning

    /** No divisor is 0 in this class, but each is looked at before it divides. */
    private static long quotient(long a, long b) {
        return b == 0 ? 0 : a / b;
    }

    private static long remainder(long a, long b) {
        return b == 0 ? 0 : a % b;
    }

    private static long wholePart(long above, long below) {
        return below == 0 ? 0 : Math.floorDiv(above, below);
    }

    private static long commonDivisor(long a, long b) {
        long greater = Math.abs(a);
        long lesser = Math.abs(b);
        // Two longs need fewer than a hundred rounds.
        for (int round = 0; round < 1000 && lesser != 0; round++) {
            long left = greater % lesser;
            greater = lesser;
            lesser = left;
        }
        return greater;
    }

    /** A fraction in lowest terms: what is above the line (part 0) or below it (1). */
    private static long partOf(long above, long below, int part) {
        return quotient(part == 0 ? above : below, commonDivisor(above, below));
    }

    private static int firstGreatest(long[] heats, int n) {
        int found = NONE;
        for (int i = 0; i < n; i++) {
            if (found == NONE || heats[i] > heats[found]) {
                found = i;
            }
        }
        return found;
    }

    private static int total(int[] numbers, int n) {
        int all = 0;
        for (int i = 0; i < n; i++) {
            all += numbers[i];
        }
        return all;
    }

    private static int stepsDone(Bar which, int n) {
        int done = 0;
        while (done < n && which.advance() == DONE) {
            done++;
        }
        return done;
    }

    /** What the KINDS are under, and what a CELL is by its KIND. */
    private static final class Kinds {
        static final int PLAIN = 0, CLAD = 1, DENSE = 2, FINNED = 3, TURNED = 4, LINED = 5;

        private Kinds() {
        }

        static int lineOf(int kind) {
            switch (kind) {
                case CLAD:
                    return 1 << CLAD | 1 << PLAIN;
                case DENSE:
                    return 1 << DENSE | 1 << PLAIN;
                case FINNED:
                    return 1 << FINNED | 1 << CLAD | 1 << PLAIN;
                case TURNED:
                    return 1 << TURNED | 1 << DENSE | 1 << PLAIN;
                case LINED:
                    return 1 << LINED | 1 << CLAD | 1 << PLAIN;
                default:
                    return 1 << PLAIN;
            }
        }

        static boolean isUnder(int kind, int above) {
            return (lineOf(kind) >> above & 1) == 1;
        }

        static int sideOf(int kind, int k) {
            int halfUp = (k + 1) / 2;
            switch (kind) {
                case CLAD:
                case FINNED:
                    return halfUp;
                case LINED:
                    return Math.min(2, halfUp);
                case TURNED:
                    return 10 - k;
                default:
                    return k;
            }
        }

        static int holdsOf(int kind, int c) {
            return kind == DENSE || kind == TURNED ? 2 * c : c;
        }

        static int finOf(int kind) {
            return kind == FINNED ? 1 : 0;
        }

        static int madeOf(int kind, int c) {
            int digits = c == 1 ? 132 : 13;
            if (isUnder(kind, CLAD)) {
                digits = digits * 10 + 4;
            }
            if (isUnder(kind, DENSE)) {
                digits = digits * 10 + 5;
            }
            if (kind == FINNED || kind == TURNED || kind == LINED) {
                digits = digits * 10 + 3 + kind;
            }
            return digits;
        }
    }

    /** PULSES that wait, in the order in which they came. */
    private static final class Pulses {
        final int[] cell = new int[MAX_PULSES];
        final int[] due = new int[MAX_PULSES];
        final int[] heat = new int[MAX_PULSES];
        int size = 0;

        void become(Pulses other) {
            System.arraycopy(other.cell, 0, cell, 0, MAX_PULSES);
            System.arraycopy(other.due, 0, due, 0, MAX_PULSES);
            System.arraycopy(other.heat, 0, heat, 0, MAX_PULSES);
            size = other.size;
        }

        int append(int ofCell, int in, int by) {
            if (size >= MAX_PULSES) {
                return FULL;
            }
            cell[size] = ofCell;
            due[size] = in;
            heat[size] = by;
            size++;
            return size;
        }

        int removeOf(int ofCell) {
            int before = size;
            size = 0;
            for (int i = 0; i < before; i++) {
                if (cell[i] != ofCell) {
                    append(cell[i], due[i], heat[i]);
                }
            }
            return before - size;
        }

        /** Adds what comes with the next STEP to heats that stand over a line. */
        void warmNext(long[] heats, long below) {
            for (int i = 0; i < size; i++) {
                int which = cell[i];
                if (due[i] == 1 && which >= 0 && which < heats.length) {
                    heats[which] += heat[i] * below;
                }
            }
        }

        void passOne() {
            int before = size;
            size = 0;
            for (int i = 0; i < before; i++) {
                if (due[i] > 1) {
                    append(cell[i], due[i] - 1, heat[i]);
                }
            }
        }
    }

    /**
     * CELLS with their heats, ENDS, RULES and PULSES. Heats stand over THE LINE:
     * T of cell i is above[i] / below, and below is the least one there can be.
     * A STEP leaves at most LIMIT on either side of it; a heat that is told, at
     * most 999 (and 9 by a lot), may be 1008 times LIMIT above it. So what a STEP
     * reckons, over 480 times THE LINE at most, stays under 2 * 10^18.
     */
    private static final class Bar {
        int cells = 0;
        final int[] kind = new int[MAX_CELLS];
        final int[] k = new int[MAX_CELLS];
        final int[] c = new int[MAX_CELLS];
        final int[] source = new int[MAX_CELLS];
        final int[] side = new int[MAX_CELLS];
        final int[] holds = new int[MAX_CELLS];
        final int[] fin = new int[MAX_CELLS];
        final long[] above = new long[MAX_CELLS];
        long below = 1;
        final int[] ends = {SHUT, SHUT};
        int fine = 4;
        int air = 0;
        final Pulses pulses = new Pulses();
        private final long[] next = new long[MAX_CELLS];

        void become(Bar other) {
            cells = other.cells;
            System.arraycopy(other.kind, 0, kind, 0, MAX_CELLS);
            System.arraycopy(other.k, 0, k, 0, MAX_CELLS);
            System.arraycopy(other.c, 0, c, 0, MAX_CELLS);
            System.arraycopy(other.source, 0, source, 0, MAX_CELLS);
            System.arraycopy(other.side, 0, side, 0, MAX_CELLS);
            System.arraycopy(other.holds, 0, holds, 0, MAX_CELLS);
            System.arraycopy(other.fin, 0, fin, 0, MAX_CELLS);
            System.arraycopy(other.above, 0, above, 0, MAX_CELLS);
            below = other.below;
            System.arraycopy(other.ends, 0, ends, 0, ends.length);
            fine = other.fine;
            air = other.air;
            pulses.become(other.pulses);
        }

        boolean has(int i) {
            return i >= 0 && i < cells;
        }

        int append(int itsKind, int itsK, int itsC, int heat) {
            if (cells >= MAX_CELLS) {
                return FULL;
            }
            int i = cells;
            cells++;
            kind[i] = itsKind;
            k[i] = itsK;
            c[i] = itsC;
            source[i] = 0;
            above[i] = heat * below;
            make(i);
            return i;
        }

        private void make(int i) {
            side[i] = Kinds.sideOf(kind[i], k[i]);
            holds[i] = Kinds.holdsOf(kind[i], c[i]);
            fin[i] = Kinds.finOf(kind[i]);
        }

        void removeLatest() {
            if (cells > 0) {
                cells--;
                pulses.removeOf(cells);
                below = reduce(above, below);
            }
        }

        int changeKind(int i, int v) {
            int was = kind[i];
            kind[i] = v;
            make(i);
            return was;
        }

        int changeK(int i, int v) {
            int was = k[i];
            k[i] = v;
            make(i);
            return was;
        }

        int changeC(int i, int v) {
            int was = c[i];
            c[i] = v;
            make(i);
            return was;
        }

        int changeSource(int i, int v) {
            int was = source[i];
            source[i] = v;
            return was;
        }

        void changeHeat(int i, int v) {
            above[i] = v * below;
            below = reduce(above, below);
        }

        void warm(int i, int more) {
            above[i] += more * below;
        }

        int hottestCell() {
            return firstGreatest(above, cells);
        }

        int coldestCell() {
            int found = NONE;
            for (int i = 0; i < cells; i++) {
                if (found == NONE || above[i] < above[found]) {
                    found = i;
                }
            }
            return found;
        }

        /** The greatest T times THE LINE. */
        long greatest() {
            int i = hottestCell();
            return i == NONE ? 0 : above[i];
        }

        long least() {
            int i = coldestCell();
            return i == NONE ? 0 : above[i];
        }

        boolean hasJoint(int i) {
            return cells > 0 && i >= -1 && i < cells;
        }

        int leads(int i) {
            if (!hasJoint(i)) {
                return BAD;
            }
            if (i < 0) {
                return ends[0] == SHUT ? 0 : side[0];
            }
            if (i == cells - 1) {
                return ends[1] == SHUT ? 0 : side[i];
            }
            return Math.min(side[i], side[i + 1]);
        }

        /** FLOW at a JOINT, times the line over which the heats stand. */
        long flowAbove(int i, long[] heats, long line) {
            long left = i < 0 ? ends[0] * line : heats[i];
            long right = i >= cells - 1 ? ends[1] * line : heats[i + 1];
            return leads(i) * (left - right);
        }

        /** How much a CELL loses by each degree that it is hotter than all around. */
        int loss(int i) {
            return leads(i - 1) + leads(i) + fin[i];
        }

        /** What comes to a CELL from SOURCE, AIR and the ENDS, were all CELLS at 0. */
        int supply(int i) {
            int fromLeft = i == 0 ? leads(-1) * ends[0] : 0;
            int fromRight = i == cells - 1 ? leads(i) * ends[1] : 0;
            return source[i] + fin[i] * air + fromLeft + fromRight;
        }

        /** What a CELL gains in a STEP, PULSES aside, times THE LINE, HOLDS and FINE. */
        long gain(int i) {
            long through = flowAbove(i - 1, above, below) - flowAbove(i, above, below);
            return through + fin[i] * (air * below - above[i]) + source[i] * below;
        }

        /** A STEP, if it is not SPENT: DONE, or its LARGE. */
        int advance() {
            long finer = ALL_HOLDS * fine;
            for (int i = 0; i < cells; i++) {
                next[i] = above[i] * finer + gain(i) * quotient(ALL_HOLDS, holds[i]);
            }
            pulses.warmNext(next, below * finer);
            int large = takeHeats(next, below * finer);
            if (large == DONE) {
                pulses.passOne();
            }
            return large;
        }

        /** All T become the heats over that line, unless something is too large: DONE, or LARGE. */
        int takeHeats(long[] heats, long line) {
            long least = reduce(heats, line);
            if (least > LIMIT) {
                return NONE;
            }
            for (int i = 0; i < cells; i++) {
                if (Math.abs(heats[i]) > LIMIT) {
                    return i;
                }
            }
            System.arraycopy(heats, 0, above, 0, MAX_CELLS);
            below = least;
            return DONE;
        }

        /** Lays heats over the least line there can be, and answers it. */
        private long reduce(long[] heats, long line) {
            long shared = line;
            for (int i = 0; i < cells; i++) {
                shared = commonDivisor(shared, heats[i]);
            }
            for (int i = 0; i < cells; i++) {
                heats[i] = quotient(heats[i], shared);
            }
            return quotient(line, shared);
        }

        /**
         * Whether the greatest T is more than it was ahead of the latest STEP. Both are
         * compared over the line on which that STEP was reckoned, as it is a multiple of
         * both lines; their product could be too large for a long.
         */
        boolean isRisenFrom(long topAhead, long lineAhead) {
            long finer = ALL_HOLDS * fine;
            return greatest() * quotient(lineAhead * finer, below) > topAhead * finer;
        }

        boolean canRest() {
            boolean open = ends[0] != SHUT || ends[1] != SHUT;
            return cells > 0 && (open || total(fin, cells) > 0);
        }
    }

    /**
     * STEADY heats of a bar: what solves loss(i) T(i) - leads(i-1) T(i-1) - leads(i) T(i+1)
     * = supply(i). All stand over the determinant, so whole numbers do: with 8 cells
     * none of them comes near 10^14.
     */
    private static final class Steady {
        final long[] above = new long[MAX_CELLS];
        long below = 1;
        /** Determinants of the cells ahead of i alone, and of those from i on alone. */
        private final long[] ahead = new long[MAX_CELLS + 1];
        private final long[] onward = new long[MAX_CELLS + 2];
        /** What the supplies of cells ahead of i, and from i on, bring up to there; 0 past the ends. */
        private final long[] fromLeft = new long[MAX_CELLS + 1];
        private final long[] fromRight = new long[MAX_CELLS + 1];

        void solve(Bar bar) {
            int n = bar.cells;
            sweepRight(bar, n);
            sweepLeft(bar, n);
            for (int i = 0; i < n; i++) {
                above[i] = fromLeft[i + 1] * onward[i + 1] + ahead[i] * bar.leads(i) * fromRight[i + 1];
            }
            below = ahead[n];
        }

        private void sweepRight(Bar bar, int n) {
            ahead[0] = 1;
            fromLeft[0] = 0;
            for (int i = 0; i < n; i++) {
                long lead = bar.leads(i - 1);
                long twoAhead = i > 0 ? ahead[i - 1] : 0;
                ahead[i + 1] = bar.loss(i) * ahead[i] - lead * lead * twoAhead;
                fromLeft[i + 1] = bar.supply(i) * ahead[i] + lead * fromLeft[i];
            }
        }

        private void sweepLeft(Bar bar, int n) {
            onward[n] = 1;
            onward[n + 1] = 0;
            fromRight[n] = 0;
            for (int i = n - 1; i >= 0; i--) {
                long lead = bar.leads(i);
                onward[i] = bar.loss(i) * onward[i + 1] - lead * lead * onward[i + 2];
                fromRight[i] = bar.supply(i) * onward[i + 1] + lead * fromRight[i + 1];
            }
        }
    }

    /** SHEETS: rows of numbers of a sort, or missing ones (of NO_SORT). */
    private static final class Sheets {
        final int[] sort = {NO_SORT, NO_SORT, NO_SORT, NO_SORT};
        final int[] size = new int[MAX_SHEETS];
        final int[][] items = new int[MAX_SHEETS][MAX_ITEMS];

        boolean isMissing(int which) {
            return sort[which] == NO_SORT;
        }

        boolean has(int which, int i) {
            return i >= 0 && i < size[which];
        }

        boolean hasRun(int which, int from, int n) {
            return from >= 0 && n >= 0 && from <= size[which] - n;
        }

        void renew(int which, int itsSort, int n) {
            sort[which] = itsSort;
            size[which] = n;
            for (int i = 0; i < MAX_ITEMS; i++) {
                items[which][i] = 0;
            }
        }
    }

    /** THE TAPE, and the plan that is read from it: a WORD's number, then its NUMBERS, and so on. */
    private static final class Tape {
        private static final int MAX_DIGITS = 3;

        final int[] bytes = new int[MAX_TAPE];
        int size = 0;
        /** Each TOKEN takes a byte or more, so the plan is no longer than the tape. */
        final int[] plan = new int[MAX_TAPE];
        int planned = 0;
        private int at = 0;

        void append(int v, int upTo) {
            if (size < upTo && size < MAX_TAPE) {
                bytes[size] = v;
                size++;
            }
        }

        int planAt(int place) {
            return place >= 0 && place < planned ? plan[place] : 0;
        }

        static int numbersOf(int word) {
            switch (word) {
                case WORD_CELL:
                    return 4;
                case WORD_PULSE:
                    return 3;
                case WORD_HEAT:
                case WORD_SOURCE:
                    return 2;
                case WORD_LEFT:
                case WORD_RIGHT:
                case WORD_FINE:
                    return 1;
                default:
                    return 0;
            }
        }

        private static String nameOf(int word) {
            switch (word) {
                case WORD_CELL:
                    return "cell";
                case WORD_HEAT:
                    return "heat";
                case WORD_SOURCE:
                    return "source";
                case WORD_LEFT:
                    return "left";
                case WORD_RIGHT:
                    return "right";
                case WORD_FINE:
                    return "fine";
                case WORD_PULSE:
                    return "pulse";
                default:
                    return "drop";
            }
        }

        /** The place of the text's FAULT; NONE, if there is none: then the plan stands. */
        int read() {
            at = 0;
            planned = 0;
            for (int clause = 0; clause < MAX_TAPE; clause++) {
                if (!readClause()) {
                    return at;
                }
                skipBlanks();
                if (at >= size) {
                    return NONE;
                }
                if (bytes[at] != ';') {
                    return at;
                }
                at++;
            }
            return at;
        }

        /** Where it answers false, the fault is at the place that it has come to. */
        private boolean readClause() {
            skipBlanks();
            int length = lettersHere();
            int word = wordHere(length);
            if (word == NONE) {
                return false;
            }
            at += length;
            planNext(word);
            for (int i = 0; i < numbersOf(word); i++) {
                skipBlanks();
                if (!readNumber()) {
                    return false;
                }
            }
            return true;
        }

        private boolean readNumber() {
            boolean minus = at < size && bytes[at] == '-';
            int from = minus ? at + 1 : at;
            int to = from;
            int value = 0;
            while (to < size && bytes[to] >= '0' && bytes[to] <= '9') {
                value = value * 10 + bytes[to] - '0';
                to++;
            }
            if (to == from || to - from > MAX_DIGITS) {
                return false;
            }
            planNext(minus ? -value : value);
            at = to;
            return true;
        }

        private void skipBlanks() {
            while (at < size && (bytes[at] == 32 || bytes[at] == 10)) {
                at++;
            }
        }

        private int lettersHere() {
            int to = at;
            while (to < size && bytes[to] >= 'a' && bytes[to] <= 'z') {
                to++;
            }
            return to - at;
        }

        private int wordHere(int length) {
            for (int word = 0; word < WORDS; word++) {
                if (isHere(nameOf(word), length)) {
                    return word;
                }
            }
            return NONE;
        }

        private boolean isHere(String name, int length) {
            if (name.length() != length || at + length > size) {
                return false;
            }
            for (int i = 0; i < length; i++) {
                if (bytes[at + i] != name.charAt(i)) {
                    return false;
                }
            }
            return true;
        }

        private void planNext(int v) {
            if (planned < MAX_TAPE) {
                plan[planned] = v;
                planned++;
            }
        }
    }
}
