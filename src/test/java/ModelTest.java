import java.util.Random;

/** Runs of calls by lot, on BarSteps and on Model alike: each answer must be the same. */
public final class ModelTest {
    private static final int CALLS = 46;

    private final Random lot;
    private final BarSteps real = new BarSteps();
    private final Model model = new Model();
    private String call = "";

    private ModelTest(long seed) {
        lot = new Random(seed);
    }

    public static void main(String[] args) {
        int runs = args.length > 0 ? Integer.parseInt(args[0]) : 600;
        long first = args.length > 1 ? Long.parseLong(args[1]) : 1;
        int wrong = 0;
        for (long seed = first; seed < first + runs && wrong < 10; seed++) {
            wrong += new ModelTest(seed).run(seed) ? 0 : 1;
        }
        System.out.println("ModelTest: " + runs + " runs by lot, " + wrong + " went wrong");
        if (wrong != 0) {
            System.exit(1);
        }
    }

    private boolean run(long seed) {
        StringBuilder log = new StringBuilder();
        begin();
        for (int i = 0; i < 400; i++) {
            long[] both = any();
            log.append(call).append(" -> ").append(both[1]).append('\n');
            if (both[0] != both[1]) {
                System.out.println("run " + seed + "\n" + log + "answered " + both[0]);
                return false;
            }
        }
        return true;
    }

    /** Most runs start with a bar that does something; those on new objects stay rare. */
    private void begin() {
        int cells = lot.nextInt(9);
        for (int i = 0; i < cells; i++) {
            int kind = lot.nextInt(6);
            int k = 1 + lot.nextInt(9);
            int c = 1 + lot.nextInt(4);
            int heat = lot.nextInt(3) == 0 ? lot.nextInt(1000) : lot.nextInt(30);
            real.cell(kind, k, c, heat);
            model.cell(kind, k, c, heat);
        }
        int fine = lot.nextBoolean() ? 1 << lot.nextInt(5) : 1 + lot.nextInt(20);
        real.rule(0, fine);
        model.rule(0, fine);
        if (lot.nextInt(3) == 0) {
            strain(cells);
        }
    }

    /** The largest numbers that a bar can hold: heats told over a line that steps have used up. */
    private void strain(int cells) {
        for (int i = 0; i < cells; i++) {
            int source = lot.nextInt(19) - 9;
            real.set(i, 3, source);
            model.set(i, 3, source);
        }
        real.step(40);
        model.step(40);
        for (int i = 0; i < cells; i++) {
            int heat = lot.nextBoolean() ? 999 : 0;
            if (lot.nextInt(3) > 0) {
                real.heat(i, heat);
                model.heat(i, heat);
            }
        }
        int fine = lot.nextBoolean() ? 20 : 1;
        real.rule(0, fine);
        model.rule(0, fine);
        for (int i = 0; i < 12; i++) {
            int cell = lot.nextInt(Math.max(1, cells));
            real.pulse(cell, 1, 99);
            model.pulse(cell, 1, 99);
        }
        real.image();
        model.image();
    }

    private int num(int least, int most) {
        int wide = lot.nextInt(25);
        if (wide == 0) {
            int[] odd = {least - 1, most + 1, Integer.MIN_VALUE, Integer.MAX_VALUE, -1, 0};
            return odd[lot.nextInt(odd.length)];
        }
        if (wide == 1) {
            return lot.nextBoolean() ? least : most;
        }
        return least + lot.nextInt(most - least + 1);
    }

    private int cellNumber() {
        int n = Math.max(1, model.count(0));
        return lot.nextInt(12) == 0 ? num(-2, 8) : lot.nextInt(n);
    }

    private int jointNumber() {
        return lot.nextInt(12) == 0 ? num(-3, 9) : lot.nextInt(model.count(0) + 1) - 1;
    }

    private int part() {
        return lot.nextInt(20) == 0 ? num(-1, 2) : lot.nextInt(2);
    }

    private int sheetNumber() {
        return lot.nextInt(25) == 0 ? num(-1, 4) : lot.nextInt(4);
    }

    private void say(String name, int... args) {
        StringBuilder s = new StringBuilder(name).append('(');
        for (int i = 0; i < args.length; i++) {
            s.append(i == 0 ? "" : ", ").append(args[i]);
        }
        call = s.append(')').toString();
    }

    private static long[] both(long a, long b) {
        return new long[] {a, b};
    }

    private long[] any() {
        int which = lot.nextInt(CALLS);
        if (which < 12) {
            return cells(which);
        }
        if (which < 22) {
            return heats(which);
        }
        return which < 32 ? steadies(which) : host(which);
    }

    private long[] cells(int which) {
        int i = cellNumber();
        int p = part();
        switch (which) {
            case 0: {
                int a = num(0, 5), b = num(1, 9), c = num(1, 4), d = num(0, 999);
                say("cell", a, b, c, d);
                return both(real.cell(a, b, c, d), model.cell(a, b, c, d));
            }
            case 1: {
                if (lot.nextInt(3) > 0) {
                    return joints();
                }
                say("drop");
                return both(real.drop(), model.drop());
            }
            case 2: {
                int what = num(0, 3);
                int[][] ranges = {{1, 9}, {1, 4}, {0, 5}, {-9, 9}};
                int v = what >= 0 && what < 4 ? num(ranges[what][0], ranges[what][1]) : num(0, 5);
                say("set", i, what, v);
                return both(real.set(i, what, v), model.set(i, what, v));
            }
            case 3: {
                int v = num(0, 999);
                say("heat", i, v);
                return both(real.heat(i, v), model.heat(i, v));
            }
            case 4: {
                int what = num(0, 7);
                say("of", i, what);
                return both(real.of(i, what), model.of(i, what));
            }
            case 5: {
                int k = num(0, 5);
                say("taken", i, k);
                return both(real.taken(i, k), model.taken(i, k));
            }
            case 6: {
                int k = num(0, 5);
                say("kin", k);
                return both(real.kin(k), model.kin(k));
            }
            case 7: {
                int v = lot.nextInt(3) == 0 ? -1 : num(-1, 999);
                say("end", p, v);
                return both(real.end(p, v), model.end(p, v));
            }
            case 8: {
                int v = p == 0 ? lot.nextBoolean() ? 1 << lot.nextInt(5) : num(1, 20) : num(0, 999);
                say("rule", p, v);
                return both(real.rule(p, v), model.rule(p, v));
            }
            case 9:
            case 10: {
                say("t", i, p);
                return both(real.t(i, p), model.t(i, p));
            }
            default: {
                say("line");
                return both(real.line(), model.line());
            }
        }
    }

    private long[] joints() {
        int i = jointNumber();
        int p = part();
        if (lot.nextBoolean()) {
            say("joint", i);
            return both(real.joint(i), model.joint(i));
        }
        say("flow", i, p);
        return both(real.flow(i, p), model.flow(i, p));
    }

    private long[] heats(int which) {
        int i = cellNumber();
        int p = part();
        switch (which) {
            case 12: {
                int cell = lot.nextInt(3) == 0 ? -1 : i;
                say("stable", cell);
                return both(real.stable(cell), model.stable(cell));
            }
            case 13: {
                say("need");
                return both(real.need(), model.need());
            }
            case 14: {
                say("sum", p);
                return both(real.sum(p), model.sum(p));
            }
            case 15: {
                say("most", p);
                return both(real.most(p), model.most(p));
            }
            case 16: {
                int n = lot.nextInt(4) == 0 ? num(1, 40) : num(1, 3);
                say("step", n);
                return both(real.step(n), model.step(n));
            }
            case 17: {
                int n = num(0, 12);
                say("then", n, i, p);
                return both(real.then(n, i, p), model.then(n, i, p));
            }
            case 18: {
                say("spent", p);
                return both(real.spent(p), model.spent(p));
            }
            case 19: {
                int n = num(1, 40);
                say("rises", n);
                return both(real.rises(n), model.rises(n));
            }
            case 20: {
                int v = lot.nextBoolean() ? num(0, 999) : num(0, 30);
                say("calm", v);
                return both(real.calm(v), model.calm(v));
            }
            default:
                return pulses(i);
        }
    }

    private long[] pulses(int i) {
        switch (lot.nextInt(4)) {
            case 0: {
                int j = num(0, 11), what = num(0, 2);
                say("pulseOf", j, what);
                return both(real.pulseOf(j, what), model.pulseOf(j, what));
            }
            case 1: {
                if (lot.nextInt(4) == 0) {
                    say("hush", i);
                    return both(real.hush(i), model.hush(i));
                }
                int what = num(0, 5);
                say("count", what);
                return both(real.count(what), model.count(what));
            }
            default: {
                int due = num(1, 20), heat = num(-99, 99);
                say("pulse", i, due, heat);
                return both(real.pulse(i, due, heat), model.pulse(i, due, heat));
            }
        }
    }

    private long[] steadies(int which) {
        int i = cellNumber();
        int p = part();
        switch (which) {
            case 22: {
                say("steady", i, p);
                return both(real.steady(i, p), model.steady(i, p));
            }
            case 23: {
                int j = jointNumber();
                say("steadyFlow", j, p);
                return both(real.steadyFlow(j, p), model.steadyFlow(j, p));
            }
            case 24: {
                say("hottest");
                return both(real.hottest(), model.hottest());
            }
            case 25: {
                if (lot.nextInt(3) > 0) {
                    return told(i);
                }
                say("lay");
                return both(real.lay(), model.lay());
            }
            case 26: {
                say("isSteady");
                return both(real.isSteady(), model.isSteady());
            }
            case 27: {
                int s = lot.nextBoolean() ? sheetNumber() : steadySheet();
                say("buried", s, p);
                return both(real.buried(s, p), model.buried(s, p));
            }
            case 28:
            case 29:
                return told(i);
            case 30: {
                int s = sheetNumber(), n = num(0, 10);
                say("film", s, i, n);
                return both(real.film(s, i, n), model.film(s, i, n));
            }
            default: {
                int seed = lot.nextInt(), n = num(0, 20);
                say("drawn", seed, n);
                return both(real.drawn(seed, n), model.drawn(seed, n));
            }
        }
    }

    private long[] told(int i) {
        int s = sheetNumber();
        int p = part();
        say("tells", s, i, p);
        return both(real.tells(s, i, p), model.tells(s, i, p));
    }

    /** A sheet that tells true heats, sometimes of a changed source, so that something is found. */
    private int steadySheet() {
        int s = lot.nextInt(4);
        int n = lot.nextInt(model.count(0) + 1);
        int sort = lot.nextInt(2);
        real.sheet(s, sort, n);
        model.sheet(s, sort, n);
        int cell = cellNumber();
        int own = model.of(cell, 3);
        model.set(cell, 3, lot.nextInt(19) - 9);
        int[] row = new int[n];
        for (int i = 0; i < n && model.steady(i, 1) != Model.NO; i++) {
            row[i] = (int) Math.floorDiv(model.steady(i, 0), model.steady(i, 1));
        }
        model.set(cell, 3, own);
        for (int i = 0; i < n; i++) {
            real.put(s, i, row[i]);
            model.put(s, i, row[i]);
        }
        return s;
    }

    private long[] host(int which) {
        int s = sheetNumber();
        switch (which) {
            case 32:
            case 33:
            case 34:
                return text();
            case 35: {
                say("image");
                return both(real.image(), model.image());
            }
            case 36: {
                say("back");
                return both(real.back(), model.back());
            }
            case 37:
            case 38:
                return load(s);
            case 39:
            case 40: {
                int sort = num(-1, 1), n = lot.nextBoolean() ? num(0, 40) : num(0, 8);
                say("sheet", s, sort, n);
                return both(real.sheet(s, sort, n), model.sheet(s, sort, n));
            }
            case 41:
            case 42: {
                int i = num(0, 8), v = lot.nextInt(5) == 0 ? lot.nextInt() : num(0, 20);
                say("put", s, i, v);
                return both(real.put(s, i, v), model.put(s, i, v));
            }
            case 43:
            case 44: {
                int o = sheetNumber(), i = num(0, 8), j = num(0, 8), n = num(0, 8);
                say("copy", s, i, o, j, n);
                return both(real.copy(s, i, o, j, n), model.copy(s, i, o, j, n));
            }
            default: {
                int n = num(1, 5), a = num(0, 255), b = num(32, 127), c = num(0, 255), d = 32, e = num(0, 255);
                say("feed", n, a, b, c, d, e);
                return both(real.feed(n, a, b, c, d, e), model.feed(n, a, b, c, d, e));
            }
        }
    }

    private long[] load(int s) {
        int sort = num(0, 1);
        int from = num(0, 6);
        int n = num(0, 8);
        if (lot.nextInt(3) == 0) {
            // Room for what comes, in a sheet that mostly tells cells.
            real.sheet(s, sort, 20);
            model.sheet(s, sort, 20);
            for (int i = 0; i < 20; i++) {
                int v = new int[] {num(0, 5), num(1, 9), num(1, 4), num(0, 999)}[(i + from & 3)];
                real.put(s, i, v);
                model.put(s, i, v);
            }
            while (model.count(0) > 2) {
                real.drop();
                model.drop();
            }
        }
        say("load", s, sort, from, n);
        return both(real.load(s, sort, from, n), model.load(s, sort, from, n));
    }

    private static final String[] WORDS = {"cell", "heat", "source", "left", "right", "fine", "pulse", "drop"};
    private static final int[] NUMBERS = {4, 2, 2, 1, 1, 1, 3, 0};

    private long[] text() {
        StringBuilder s = new StringBuilder();
        int clauses = 1 + lot.nextInt(4);
        for (int i = 0; i < clauses; i++) {
            s.append(i == 0 ? "" : blank() + ";" + blank());
            int word = lot.nextInt(8);
            s.append(WORDS[word]).append(blank());
            for (int j = 0; j < NUMBERS[word]; j++) {
                int v = lot.nextInt(4) == 0 ? lot.nextInt(1200) - 100 : lot.nextInt(6);
                s.append(j == 0 ? "" : " ").append(v).append(blank());
            }
        }
        if (lot.nextInt(3) == 0) {
            spoil(s);
        }
        for (int i = 0; i < s.length(); i += 5) {
            int n = Math.min(5, s.length() - i);
            int[] b = new int[5];
            for (int j = 0; j < n; j++) {
                b[j] = s.charAt(i + j);
            }
            int answer = real.feed(n, b[0], b[1], b[2], b[3], b[4]);
            if (answer != model.feed(n, b[0], b[1], b[2], b[3], b[4])) {
                say("feed", n, b[0], b[1], b[2], b[3], b[4]);
                return both(answer, Long.MAX_VALUE);
            }
        }
        call = "text() [" + s + "]";
        return both(real.text(), model.text());
    }

    private String blank() {
        return new String[] {"", "", " ", "\n", "  "}[lot.nextInt(5)];
    }

    private void spoil(StringBuilder s) {
        String odd = "; -0a9z~A\t\n" + (char) 200;
        int at = lot.nextInt(s.length());
        switch (lot.nextInt(3)) {
            case 0 -> s.deleteCharAt(at);
            case 1 -> s.insert(at, odd.charAt(lot.nextInt(odd.length())));
            default -> s.setLength(at);
        }
    }
}
