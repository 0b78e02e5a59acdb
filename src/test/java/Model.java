import java.math.BigInteger;
import java.util.ArrayList;
import java.util.List;
import java.util.regex.Matcher;
import java.util.regex.Pattern;

/**
 * The document again, by other means than BarSteps': fractions of BigIntegers, kinds as Java
 * classes, steady heats by elimination, texts by a regular expression, sheets as real arrays
 * whose exceptions are the refusals. ModelTest compares the two.
 */
final class Model {
    static final int NONE = -1, BAD = -2, STATE = -3, FULL = -4;
    static final long NO = Long.MIN_VALUE;
    static final BigInteger LIMIT = BigInteger.valueOf(1000000000000L);

    record Frac(BigInteger above, BigInteger below) {
        static Frac of(BigInteger a, BigInteger b) {
            if (b.signum() < 0) {
                a = a.negate();
                b = b.negate();
            }
            BigInteger g = a.gcd(b);
            return new Frac(a.divide(g), b.divide(g));
        }

        static Frac of(long v) {
            return new Frac(BigInteger.valueOf(v), BigInteger.ONE);
        }

        Frac plus(Frac o) {
            return of(above.multiply(o.below).add(o.above.multiply(below)), below.multiply(o.below));
        }

        Frac times(Frac o) {
            return of(above.multiply(o.above), below.multiply(o.below));
        }

        Frac by(Frac o) {
            return of(above.multiply(o.below), below.multiply(o.above));
        }

        Frac times(long v) {
            return times(of(v));
        }

        Frac less(Frac o) {
            return plus(o.times(-1));
        }

        int compare(Frac o) {
            return above.multiply(o.below).compareTo(o.above.multiply(below));
        }

        long whole() {
            BigInteger[] q = above.divideAndRemainder(below);
            return (q[1].signum() < 0 ? q[0].subtract(BigInteger.ONE) : q[0]).longValueExact();
        }

        long part(int part) {
            return (part == 0 ? above : below).longValueExact();
        }
    }

    static class Plain {
        final int k;
        final int c;
        final StringBuilder made = new StringBuilder("1");

        Plain(int k, int c) {
            this.k = k;
            this.c = c;
            made.append("3");
            if (c == 1) {
                made.append("2");
            }
        }

        int side() {
            return k;
        }

        int holds() {
            return c;
        }

        int fin() {
            return 0;
        }
    }

    static class Clad extends Plain {
        Clad(int k, int c) {
            super(k, c);
            made.append("4");
        }

        @Override
        int side() {
            return super.side() / 2 + super.side() % 2;
        }
    }

    static class Dense extends Plain {
        Dense(int k, int c) {
            super(k, c);
            made.append("5");
        }

        @Override
        int holds() {
            return super.holds() * 2;
        }
    }

    static class Finned extends Clad {
        Finned(int k, int c) {
            super(k, c);
            made.append("6");
        }

        @Override
        int fin() {
            return 1;
        }
    }

    static class Turned extends Dense {
        Turned(int k, int c) {
            super(k, c);
            made.append("7");
        }

        @Override
        int side() {
            return 10 - super.side();
        }
    }

    static class Lined extends Clad {
        Lined(int k, int c) {
            super(k, c);
            made.append("8");
        }

        @Override
        int side() {
            return super.side() < 2 ? super.side() : 2;
        }
    }

    static final List<Class<? extends Plain>> CLASSES =
        List.of(Plain.class, Clad.class, Dense.class, Finned.class, Turned.class, Lined.class);

    static Plain make(int kind, int k, int c) {
        return switch (kind) {
            case 0 -> new Plain(k, c);
            case 1 -> new Clad(k, c);
            case 2 -> new Dense(k, c);
            case 3 -> new Finned(k, c);
            case 4 -> new Turned(k, c);
            default -> new Lined(k, c);
        };
    }

    record Cell(Plain made, int source, Frac heat) {
        int kind() {
            return CLASSES.indexOf(made.getClass());
        }

        Cell as(Plain other) {
            return new Cell(other, source, heat);
        }

        Cell withSource(int v) {
            return new Cell(made, v, heat);
        }

        Cell at(Frac v) {
            return new Cell(made, source, v);
        }
    }

    record Pulse(int cell, int due, int heat) {
    }

    /** All that an image keeps; cells and pulses never change, only the lists do. */
    static final class State {
        final List<Cell> cells = new ArrayList<>();
        final List<Pulse> pulses = new ArrayList<>();
        final int[] ends = {-1, -1};
        final int[] rules = {4, 0};

        State twin() {
            State s = new State();
            s.cells.addAll(cells);
            s.pulses.addAll(pulses);
            System.arraycopy(ends, 0, s.ends, 0, 2);
            System.arraycopy(rules, 0, s.rules, 0, 2);
            return s;
        }

        int n() {
            return cells.size();
        }

        boolean has(int i) {
            return i >= 0 && i < n();
        }

        boolean hasJoint(int i) {
            return n() > 0 && i >= -1 && i <= n() - 1;
        }

        List<Frac> heats() {
            List<Frac> all = new ArrayList<>();
            for (Cell c : cells) {
                all.add(c.heat);
            }
            return all;
        }

        int leads(int i) {
            if (i == -1) {
                return ends[0] < 0 ? 0 : cells.get(0).made.side();
            }
            if (i == n() - 1) {
                return ends[1] < 0 ? 0 : cells.get(i).made.side();
            }
            return Math.min(cells.get(i).made.side(), cells.get(i + 1).made.side());
        }

        Frac flow(int i, List<Frac> heats) {
            Frac left = i == -1 ? Frac.of(ends[0]) : heats.get(i);
            Frac right = i == n() - 1 ? Frac.of(ends[1]) : heats.get(i + 1);
            return left.less(right).times(leads(i));
        }

        Frac change(int i) {
            List<Frac> now = heats();
            Plain made = cells.get(i).made;
            Frac air = Frac.of(rules[1]).less(now.get(i)).times(made.fin());
            Frac all = flow(i - 1, now).less(flow(i, now)).plus(air).plus(Frac.of(cells.get(i).source));
            return all.by(Frac.of((long) made.holds() * rules[0]));
        }

        BigInteger line() {
            BigInteger least = BigInteger.ONE;
            for (Cell c : cells) {
                least = least.divide(least.gcd(c.heat.below)).multiply(c.heat.below);
            }
            return least;
        }

        /** null: nothing is too large; else LARGE. */
        Integer large() {
            BigInteger line = line();
            if (line.compareTo(LIMIT) > 0) {
                return NONE;
            }
            for (int i = 0; i < n(); i++) {
                BigInteger t = cells.get(i).heat.times(Frac.of(line, BigInteger.ONE)).above;
                if (t.abs().compareTo(LIMIT) > 0) {
                    return i;
                }
            }
            return null;
        }

        /** The state behind a step, whether or not it is spent. */
        State next() {
            State s = twin();
            for (int i = 0; i < n(); i++) {
                s.cells.set(i, cells.get(i).at(cells.get(i).heat.plus(change(i))));
            }
            s.pulses.clear();
            for (Pulse p : pulses) {
                if (p.due == 1) {
                    s.warm(p.cell, p.heat);
                } else {
                    s.pulses.add(new Pulse(p.cell, p.due - 1, p.heat));
                }
            }
            return s;
        }

        void warm(int i, int more) {
            cells.set(i, cells.get(i).at(cells.get(i).heat.plus(Frac.of(more))));
        }

        /** null: a step on the way is spent. */
        State behind(int steps) {
            State s = this;
            for (int i = 0; i < steps; i++) {
                s = s.next();
                if (s.large() != null) {
                    return null;
                }
            }
            return s;
        }

        Frac greatest() {
            return cells.get(first(heats(), 1)).heat;
        }

        Frac least() {
            return cells.get(first(heats(), -1)).heat;
        }

        boolean canRest() {
            boolean fins = false;
            for (Cell c : cells) {
                fins |= c.made.fin() > 0;
            }
            return n() > 0 && (ends[0] >= 0 || ends[1] >= 0 || fins);
        }

        List<Frac> steady() {
            int n = n();
            Frac[][] rows = new Frac[n][n + 1];
            for (int i = 0; i < n; i++) {
                java.util.Arrays.fill(rows[i], Frac.of(0));
                Plain made = cells.get(i).made;
                rows[i][i] = Frac.of(leads(i - 1) + leads(i) + made.fin());
                rows[i][n] = Frac.of(cells.get(i).source + made.fin() * rules[1]);
                if (i > 0) {
                    rows[i][i - 1] = Frac.of(-leads(i - 1));
                } else {
                    rows[i][n] = rows[i][n].plus(Frac.of((long) leads(-1) * ends[0]));
                }
                if (i < n - 1) {
                    rows[i][i + 1] = Frac.of(-leads(i));
                } else {
                    rows[i][n] = rows[i][n].plus(Frac.of((long) leads(i) * ends[1]));
                }
            }
            for (int p = 0; p < n; p++) {
                for (int r = 0; r < n; r++) {
                    if (r != p && rows[r][p].above.signum() != 0) {
                        Frac f = rows[r][p].by(rows[p][p]);
                        for (int x = 0; x <= n; x++) {
                            rows[r][x] = rows[r][x].less(rows[p][x].times(f));
                        }
                    }
                }
            }
            List<Frac> all = new ArrayList<>();
            for (int i = 0; i < n; i++) {
                all.add(rows[i][n].by(rows[i][i]));
            }
            return all;
        }
    }

    static int first(List<Frac> heats, int sign) {
        int found = NONE;
        for (int i = 0; i < heats.size(); i++) {
            if (found == NONE || heats.get(i).compare(heats.get(found)) * sign > 0) {
                found = i;
            }
        }
        return found;
    }

    private State now = new State();
    private State image = null;
    private final Object[] sheets = new Object[4];
    private final StringBuilder tape = new StringBuilder();

    private static boolean in(int v, int least, int most) {
        return least <= v && v <= most;
    }

    int cell(int kind, int k, int c, int heat) {
        if (!in(kind, 0, 5) || !in(k, 1, 9) || !in(c, 1, 4) || !in(heat, 0, 999)) {
            return BAD;
        }
        if (now.n() == 8) {
            return FULL;
        }
        now.cells.add(new Cell(make(kind, k, c), 0, Frac.of(heat)));
        return now.n() - 1;
    }

    int drop() {
        if (now.n() == 0) {
            return STATE;
        }
        now.cells.remove(now.n() - 1);
        now.pulses.removeIf(p -> p.cell == now.n());
        return now.n();
    }

    int set(int cell, int what, int v) {
        int[][] ranges = {{1, 9}, {1, 4}, {0, 5}, {-9, 9}};
        if (!now.has(cell) || !in(what, 0, 3) || !in(v, ranges[what][0], ranges[what][1])) {
            return -1000;
        }
        Cell c = now.cells.get(cell);
        int was = new int[] {c.made.k, c.made.c, c.kind(), c.source}[what];
        now.cells.set(cell, switch (what) {
            case 0 -> c.as(make(c.kind(), v, c.made.c));
            case 1 -> c.as(make(c.kind(), c.made.k, v));
            case 2 -> c.as(make(v, c.made.k, c.made.c));
            default -> c.withSource(v);
        });
        return was;
    }

    int heat(int cell, int v) {
        if (!now.has(cell) || !in(v, 0, 999)) {
            return BAD;
        }
        now.cells.set(cell, now.cells.get(cell).at(Frac.of(v)));
        return 1;
    }

    int of(int cell, int what) {
        if (!now.has(cell) || !in(what, 0, 7)) {
            return -1000;
        }
        Cell c = now.cells.get(cell);
        Plain m = c.made;
        int made = Integer.parseInt(m.made.toString());
        return new int[] {c.kind(), m.k, m.c, c.source, m.side(), m.holds(), m.fin(), made}[what];
    }

    int taken(int cell, int k) {
        if (!now.has(cell) || !in(k, 0, 5)) {
            return BAD;
        }
        return CLASSES.get(k).isInstance(now.cells.get(cell).made) ? now.cells.get(cell).made.k : -13;
    }

    int kin(int kind) {
        if (!in(kind, 0, 5)) {
            return BAD;
        }
        int bits = 0;
        for (Class<?> c = CLASSES.get(kind); c != Object.class; c = c.getSuperclass()) {
            bits |= 1 << CLASSES.indexOf(c);
        }
        return bits;
    }

    int end(int side, int v) {
        if (!in(side, 0, 1) || !in(v, -1, 999)) {
            return -1000;
        }
        int was = now.ends[side];
        now.ends[side] = v;
        return was;
    }

    int rule(int rule, int v) {
        if (!in(rule, 0, 1) || !(rule == 0 ? in(v, 1, 20) : in(v, 0, 999))) {
            return -1000;
        }
        int was = now.rules[rule];
        now.rules[rule] = v;
        return was;
    }

    long t(int cell, int part) {
        return now.has(cell) && in(part, 0, 1) ? now.cells.get(cell).heat.part(part) : NO;
    }

    long line() {
        return now.line().longValueExact();
    }

    int joint(int i) {
        return now.hasJoint(i) ? now.leads(i) : BAD;
    }

    long flow(int i, int part) {
        return now.hasJoint(i) && in(part, 0, 1) ? now.flow(i, now.heats()).part(part) : NO;
    }

    private boolean isStable(int i, int fine) {
        Plain made = now.cells.get(i).made;
        return now.leads(i - 1) + now.leads(i) + made.fin() <= made.holds() * fine;
    }

    private boolean allStable(int fine) {
        boolean all = true;
        for (int i = 0; i < now.n(); i++) {
            all &= isStable(i, fine);
        }
        return all;
    }

    int stable(int cell) {
        if (cell == NONE) {
            return allStable(now.rules[0]) ? 1 : 0;
        }
        return now.has(cell) ? isStable(cell, now.rules[0]) ? 1 : 0 : BAD;
    }

    int need() {
        int fine = 1;
        while (!allStable(fine)) {
            fine++;
        }
        return fine;
    }

    long sum(int part) {
        Frac all = Frac.of(0);
        for (Cell c : now.cells) {
            all = all.plus(c.heat.times(c.made.holds()));
        }
        return in(part, 0, 1) ? all.part(part) : NO;
    }

    int most(int what) {
        return in(what, 0, 1) ? first(now.heats(), what == 0 ? 1 : -1) : BAD;
    }

    int step(int n) {
        if (!in(n, 1, 40)) {
            return BAD;
        }
        if (now.n() == 0) {
            return STATE;
        }
        for (int i = 0; i < n; i++) {
            State s = now.next();
            if (s.large() != null) {
                return i;
            }
            now = s;
        }
        return n;
    }

    long then(int n, int cell, int part) {
        if (!in(n, 0, 40) || !now.has(cell) || !in(part, 0, 1)) {
            return NO;
        }
        State s = now.behind(n);
        return s == null ? NO : s.cells.get(cell).heat.part(part);
    }

    int spent(int what) {
        if (!in(what, 0, 1)) {
            return BAD;
        }
        State s = now;
        for (int i = 1; i <= 40; i++) {
            s = s.next();
            if (s.large() != null) {
                return what == 0 ? i : s.large();
            }
        }
        return NONE;
    }

    int rises(int n) {
        if (!in(n, 1, 40)) {
            return BAD;
        }
        if (now.n() == 0) {
            return STATE;
        }
        State s = now;
        for (int i = 1; i <= n; i++) {
            State ahead = s;
            s = s.behind(1);
            if (s == null) {
                return NONE;
            }
            if (s.greatest().compare(ahead.greatest()) > 0) {
                return i;
            }
        }
        return NONE;
    }

    int calm(int v) {
        if (!in(v, 0, 999)) {
            return BAD;
        }
        if (now.n() == 0) {
            return STATE;
        }
        State s = now;
        for (int i = 0; i <= 40 && s != null; i++) {
            if (s.greatest().less(s.least()).compare(Frac.of(v)) <= 0) {
                return i;
            }
            s = s.behind(1);
        }
        return NONE;
    }

    int pulse(int cell, int due, int heat) {
        if (!now.has(cell) || !in(due, 1, 20) || !in(heat, -99, 99)) {
            return BAD;
        }
        if (now.pulses.size() == 12) {
            return FULL;
        }
        now.pulses.add(new Pulse(cell, due, heat));
        return now.pulses.size();
    }

    int pulseOf(int i, int what) {
        if (!in(i, 0, now.pulses.size() - 1) || !in(what, 0, 2)) {
            return -1000;
        }
        Pulse p = now.pulses.get(i);
        return new int[] {p.cell, p.due, p.heat}[what];
    }

    int hush(int cell) {
        if (!now.has(cell)) {
            return BAD;
        }
        int were = now.pulses.size();
        now.pulses.removeIf(p -> p.cell == cell);
        return were - now.pulses.size();
    }

    long steady(int cell, int part) {
        boolean can = now.has(cell) && in(part, 0, 1) && now.canRest();
        return can ? now.steady().get(cell).part(part) : NO;
    }

    long steadyFlow(int i, int part) {
        boolean can = now.hasJoint(i) && in(part, 0, 1) && now.canRest();
        return can ? now.flow(i, now.steady()).part(part) : NO;
    }

    int hottest() {
        return now.canRest() ? first(now.steady(), 1) : NONE;
    }

    int lay() {
        if (!now.canRest()) {
            return STATE;
        }
        State s = now.twin();
        List<Frac> heats = now.steady();
        for (int i = 0; i < s.n(); i++) {
            s.cells.set(i, s.cells.get(i).at(heats.get(i)));
        }
        if (s.large() != null) {
            return FULL;
        }
        now = s;
        return 1;
    }

    int isSteady() {
        for (int i = 0; i < now.n(); i++) {
            if (now.change(i).above.signum() != 0) {
                return 0;
            }
        }
        return 1;
    }

    private static int size(Object sheet) {
        return java.lang.reflect.Array.getLength(sheet);
    }

    private static int item(Object sheet, int i) {
        return java.lang.reflect.Array.getInt(sheet, i);
    }

    int buried(int sheet, int what) {
        if (!in(sheet, 0, 3) || !in(what, 0, 1)) {
            return BAD;
        }
        Object row = sheets[sheet];
        if (row == null) {
            return -11;
        }
        if (size(row) > now.n()) {
            return BAD;
        }
        if (now.n() > 0 && !now.canRest()) {
            return STATE;
        }
        List<Integer> found = new ArrayList<>();
        for (int i = 0; i < now.n(); i++) {
            for (int v = -9; v <= 9; v++) {
                State s = now.twin();
                s.cells.set(i, s.cells.get(i).withSource(v));
                List<Frac> heats = s.steady();
                boolean so = true;
                for (int j = 0; j < size(row); j++) {
                    so &= heats.get(j).whole() == item(row, j);
                }
                if (so) {
                    found.add(100 * i + v + 9);
                }
            }
        }
        return what == 1 ? found.size() : found.isEmpty() ? NONE : found.get(0);
    }

    private static int otherwise(State from, Object row, int cell) {
        for (int i = 0; i < size(row); i++) {
            State s = from.behind(i);
            if (s == null || s.cells.get(cell).heat.whole() != item(row, i)) {
                return i;
            }
        }
        return NONE;
    }

    int tells(int sheet, int cell, int what) {
        if (!in(sheet, 0, 3) || !now.has(cell) || !in(what, 0, 1)) {
            return BAD;
        }
        Object row = sheets[sheet];
        if (row == null) {
            return -11;
        }
        if (size(row) > 10) {
            return BAD;
        }
        if (what == 0) {
            return otherwise(now, row, cell);
        }
        int bits = 0;
        for (int kind = 0; kind < 6; kind++) {
            State s = now.twin();
            Cell c = s.cells.get(cell);
            s.cells.set(cell, c.as(make(kind, c.made.k, c.made.c)));
            if (otherwise(s, row, cell) == NONE) {
                bits += 1 << kind;
            }
        }
        return bits;
    }

    int film(int sheet, int cell, int n) {
        if (!in(sheet, 0, 3) || !now.has(cell) || !in(n, 0, 10)) {
            return BAD;
        }
        int[] row = new int[n];
        for (int i = 0; i < n; i++) {
            State s = now.behind(i);
            if (s == null) {
                return STATE;
            }
            row[i] = (int) Math.max(-999, Math.min(999, s.cells.get(cell).heat.whole()));
        }
        sheets[sheet] = row;
        return n;
    }

    long drawn(int seed, int n) {
        if (!in(n, 0, 20) || now.n() == 0) {
            return NO;
        }
        State s = now;
        int z = seed;
        for (int i = 0; i < n; i++) {
            z = z * 1103515245 + 12345;
            s = s.twin();
            s.warm((z >>> 9) % s.n(), (z >>> 20) % 10);
            s = s.behind(1);
            if (s == null) {
                return NO;
            }
        }
        return s.greatest().whole();
    }

    int feed(int n, int a, int b, int c, int d, int e) {
        int[] all = {a, b, c, d, e};
        boolean good = in(n, 1, 5);
        for (int v : all) {
            good &= in(v, 0, 255);
        }
        if (!good) {
            return BAD;
        }
        if (tape.length() + n > 60) {
            return FULL;
        }
        for (int i = 0; i < n; i++) {
            tape.append((char) all[i]);
        }
        return tape.length();
    }

    private static final Pattern TOKEN = Pattern.compile("([a-z]+)|(-?[0-9]+)|(;)|([ \n]+)|(.)", Pattern.DOTALL);
    private static final List<String> NAMES =
        List.of("cell", "heat", "source", "left", "right", "fine", "pulse", "drop");
    private static final int[] NUMBERS = {4, 2, 2, 1, 1, 1, 3, 0};

    int text() {
        String text = tape.toString();
        tape.setLength(0);
        List<int[]> clauses = new ArrayList<>();
        Matcher m = TOKEN.matcher(text);
        int[] clause = null;
        int filled = 0;
        while (m.find()) {
            if (m.group(4) != null) {
                continue;
            }
            boolean due = clause != null && filled < clause.length;
            if (clause == null && m.group(1) != null && NAMES.contains(m.group(1))) {
                int word = NAMES.indexOf(m.group(1));
                clause = new int[1 + NUMBERS[word]];
                clause[0] = word;
                filled = 1;
                clauses.add(clause);
            } else if (due && m.group(2) != null && m.group(2).replace("-", "").length() <= 3) {
                clause[filled++] = Integer.parseInt(m.group(2));
            } else if (clause != null && !due && m.group(3) != null) {
                clause = null;
            } else {
                return -100 - m.start();
            }
        }
        if (clause == null || filled < clause.length) {
            return -100 - text.length();
        }
        int done = 0;
        for (int[] c : clauses) {
            done += perform(c) ? 1 : 0;
        }
        return done;
    }

    private boolean perform(int[] c) {
        return switch (c[0]) {
            case 0 -> cell(c[1], c[2], c[3], c[4]) > NONE;
            case 1 -> heat(c[1], c[2]) != BAD;
            case 2 -> set(c[1], 3, c[2]) != -1000;
            case 3 -> end(0, c[1]) != -1000;
            case 4 -> end(1, c[1]) != -1000;
            case 5 -> rule(0, c[1]) != -1000;
            case 6 -> pulse(c[1], c[2], c[3]) > 0;
            default -> drop() != STATE;
        };
    }

    int image() {
        image = now.twin();
        return now.n();
    }

    int back() {
        if (image == null) {
            return STATE;
        }
        now = image.twin();
        return now.n();
    }

    int load(int sheet, int sort, int from, int n) {
        if (!in(sheet, 0, 3) || !in(sort, 0, 1) || !in(n, 0, 8)) {
            return BAD;
        }
        Object row = sheets[sheet];
        if (row == null) {
            return -11;
        }
        if (!(sort == 0 ? row instanceof short[] : row instanceof int[])) {
            return -13;
        }
        int came = 0;
        try {
            for (int i = 0; i < n; i++) {
                int at = from + 4 * i;
                if (cell(item(row, at), item(row, at + 1), item(row, at + 2), item(row, at + 3)) >= 0) {
                    came++;
                }
            }
        } catch (ArrayIndexOutOfBoundsException e) {
            return -12;
        }
        return came;
    }

    int count(int what) {
        int pulses = 0;
        for (Pulse p : now.pulses) {
            pulses += p.heat;
        }
        int fins = 0;
        int sources = 0;
        for (Cell c : now.cells) {
            fins += c.made.fin();
            sources += c.source;
        }
        int[] all = {now.n(), now.pulses.size(), tape.length(), pulses, fins, sources};
        return in(what, 0, 5) ? all[what] : -1000;
    }

    int sheet(int sheet, int sort, int n) {
        if (!in(sheet, 0, 3) || !in(sort, -1, 1) || sort >= 0 && n > 40) {
            return BAD;
        }
        try {
            sheets[sheet] = sort < 0 ? null : sort == 0 ? new short[n] : new int[n];
        } catch (NegativeArraySizeException e) {
            return -14;
        }
        return 1;
    }

    int put(int sheet, int i, int v) {
        if (!in(sheet, 0, 3)) {
            return BAD;
        }
        try {
            if (sheets[sheet] instanceof short[] row) {
                row[i] = (short) v;
            } else {
                ((int[]) sheets[sheet])[i] = v;
            }
        } catch (NullPointerException e) {
            return -11;
        } catch (ArrayIndexOutOfBoundsException e) {
            return -12;
        }
        return 1;
    }

    @SuppressWarnings("SuspiciousSystemArraycopy")
    int copy(int sheet, int i, int other, int j, int n) {
        if (!in(sheet, 0, 3) || !in(other, 0, 3)) {
            return BAD;
        }
        try {
            System.arraycopy(sheets[sheet], i, sheets[other], j, n);
        } catch (NullPointerException e) {
            return -11;
        } catch (ArrayStoreException e) {
            return -13;
        } catch (IndexOutOfBoundsException e) {
            return -12;
        }
        return n;
    }
}
