/** What the tests by hand share: what is due and what is not so, and bars, rows and texts in few words. */
abstract class ByHand {
    static final int LEAST = Integer.MIN_VALUE, GREATEST = Integer.MAX_VALUE;
    static final int NONE = -1, BAD = -2, STATE = -3, FULL = -4, NO_SUCH = -1000;
    static final int MISSING = -11, OUTSIDE = -12, UNLIKE = -13, SIZE_BELOW_0 = -14;
    static final int SHORTS = 0, INTS = 1;
    static final long NO = Long.MIN_VALUE;
    static final long BOUND = 1000000000000L;

    private static int checked = 0;
    private static int wrong = 0;

    /** A call on an object, to be made later, perhaps on several. */
    interface Call {
        long on(BarSteps x);
    }

    static void due(int promise, String what, long got, long want) {
        checked++;
        if (got != want) {
            wrong++;
            System.out.println("promise " + promise + ": " + what + " answered " + got + ", due is " + want);
        }
    }

    /** A fraction, by the calls that tell what is above and what is below its line. */
    static void dueParts(int promise, String what, long[] got, long above, long below) {
        due(promise, what + ", above", got[0], above);
        due(promise, what + ", below", got[1], below);
    }

    static void endOf(String test) {
        System.out.println(test + ": " + checked + " answers, " + wrong + " not as due");
        if (wrong != 0) {
            System.exit(1);
        }
    }

    static long[] t(BarSteps x, int i) {
        return new long[] {x.t(i, 0), x.t(i, 1)};
    }

    static long[] flow(BarSteps x, int i) {
        return new long[] {x.flow(i, 0), x.flow(i, 1)};
    }

    static long[] then(BarSteps x, int n, int i) {
        return new long[] {x.then(n, i, 0), x.then(n, i, 1)};
    }

    static long[] steady(BarSteps x, int i) {
        return new long[] {x.steady(i, 0), x.steady(i, 1)};
    }

    static long[] steadyFlow(BarSteps x, int i) {
        return new long[] {x.steadyFlow(i, 0), x.steadyFlow(i, 1)};
    }

    static long[] sum(BarSteps x) {
        return new long[] {x.sum(0), x.sum(1)};
    }

    /** Cells of four numbers each: KIND, K, C, T. */
    static BarSteps bar(int... cells) {
        BarSteps x = new BarSteps();
        for (int i = 0; i + 3 < cells.length; i += 4) {
            x.cell(cells[i], cells[i + 1], cells[i + 2], cells[i + 3]);
        }
        return x;
    }

    /** So many cells alike. */
    static BarSteps alike(int cells, int kind, int k, int c, int heat) {
        BarSteps x = new BarSteps();
        for (int i = 0; i < cells; i++) {
            x.cell(kind, k, c, heat);
        }
        return x;
    }

    /** Five bytes a call, as an object has 512 calls; what has no room would spoil a test, so it ends it. */
    static int feed(BarSteps x, String text) {
        int size = x.count(2);
        for (int i = 0; i < text.length(); i += 5) {
            int n = Math.min(5, text.length() - i);
            int[] b = new int[5];
            for (int j = 0; j < n; j++) {
                b[j] = text.charAt(i + j);
            }
            size = x.feed(n, b[0], b[1], b[2], b[3], b[4]);
            if (size < 0) {
                throw new IllegalStateException("no room for [" + text + "]");
            }
        }
        return size;
    }

    static int text(BarSteps x, String text) {
        feed(x, text);
        return x.text();
    }

    static void row(BarSteps x, int sheet, int sort, int... numbers) {
        x.sheet(sheet, sort, numbers.length);
        for (int i = 0; i < numbers.length; i++) {
            x.put(sheet, i, numbers[i]);
        }
    }

    /**
     * A bar of one cell, both ends held at 0: T becomes -17 T each step, and a pulse a step is a digit, so
     * that T ends at just that number. If the last step is spent, its pulse is left.
     */
    static BarSteps reaching(long target) {
        int[] digits = new int[40];
        int n = 0;
        long rest = target;
        for (; rest < 0 || rest > 999; n++) {
            digits[n] = (int) Math.floorMod(rest, 17L);
            rest = -(rest - digits[n]) / 17;
        }
        BarSteps x = bar(0, 9, 1, (int) rest);
        x.rule(0, 1);
        x.end(0, 0);
        x.end(1, 0);
        for (int i = n - 1; i >= 0; i--) {
            x.pulse(0, 1, digits[i]);
            x.step(1);
        }
        return x;
    }

    /**
     * A bar of one PLAIN cell at rest, its ends shut, FINE 1, whose T is 10^12 - 9^12 by 10^12: twelve
     * steps by a FIN took it a tenth of its way from 0 to the air's 1 each.
     */
    static BarSteps atTheBound() {
        BarSteps x = bar(3, 1, 1, 0);
        x.rule(0, 10);
        x.rule(1, 1);
        x.step(12);
        x.set(0, 2, 0);
        x.rule(0, 1);
        x.rule(1, 0);
        return x;
    }

    static final long ABOVE_AT_THE_BOUND = BOUND - 282429536481L;

    /** Three cells, one end held, three pulses. LEADS: 4 at the left end, 4, 4, 0 at the right end. */
    static BarSteps three() {
        BarSteps x = bar(0, 4, 1, 60, 3, 7, 2, 15, 4, 2, 3, 999);
        x.end(0, 10);
        x.rule(0, 8);
        x.rule(1, 30);
        x.set(0, 3, -9);
        x.set(2, 3, 4);
        x.pulse(0, 2, -7);
        x.pulse(2, 5, 50);
        x.pulse(1, 20, 3);
        return x;
    }

    /** An object that holds something of all there is, an image too, which is not as all is now. */
    static BarSteps rich() {
        BarSteps x = three();
        x.image();
        x.step(1);
        x.set(1, 3, 2);
        x.heat(2, 998);
        x.pulse(1, 3, 1);
        x.sheet(0, SHORTS, 3);
        for (int i = 0; i < 3; i++) {
            x.put(0, i, (int) Math.floorDiv(x.then(i, 0, 0), x.then(i, 0, 1)));
        }
        x.film(1, 0, 3);
        fill(x, 3, SHORTS);
        feed(x, "left 5;drop;cell 0 1 1 7");
        return x;
    }

    /** 8 cells, 12 pulses, 60 bytes, four sheets of 40, and an image of it. */
    static BarSteps full() {
        BarSteps x = alike(8, 0, 1, 1, 5);
        for (int i = 0; i < 12; i++) {
            x.pulse(i % 8, i + 1, i);
        }
        for (int sheet = 0; sheet < 4; sheet++) {
            fill(x, sheet, sheet % 2);
        }
        for (int i = 0; i < 12; i++) {
            x.feed(5, 'd', 'r', 'o', 'p', i < 11 ? ';' : ' ');
        }
        x.image();
        return x;
    }

    /** A sheet of 40, which tells ten cells: KIND 1, K 2, C 3, T 4. */
    static void fill(BarSteps x, int sheet, int sort) {
        x.sheet(sheet, sort, 40);
        for (int i = 0; i < 4; i++) {
            x.put(sheet, i, i + 1);
        }
        x.copy(sheet, 0, sheet, 4, 4);
        x.copy(sheet, 0, sheet, 8, 8);
        x.copy(sheet, 0, sheet, 16, 16);
        x.copy(sheet, 0, sheet, 32, 8);
    }
}
