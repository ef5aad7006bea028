import java.util.ArrayList;
import java.util.Arrays;
import java.util.List;
import java.util.function.Function;
import java.util.regex.Matcher;
import java.util.regex.Pattern;

/**
 * Runs of calls on a RoundAndUp and on a slow model of the document, written another way: classes with bodies, real
 * arrays and what the machine refuses, regular expressions for the TEXT, all ways tried for SEATS and tuning.
 * The runs hang on a counter alone, so they are the same each time.
 */
public final class ModelTest {
    private static int wrong = 0;

    // ---- the model

    static class Thing {
        final Model m;
        int n, a, phase, price;

        Thing(Model m, int n, int a, int phase, int price) {
            this.m = m;
            this.n = n;
            this.a = a;
            this.phase = phase;
            this.price = price;
        }

        int kind() { return 0; }
        int factor() { return 1; }
        long teeth(int t) { return t; }
        int more() { return 0; }
        int lifts(int x) { m.ran(10); return x + n; }
        int turns(int x) { m.ran(11); return lifts(x) * 2; }
        int shares(int x) { m.ran(12); return x / (a - n); }
        int tells(int x) { m.ran(13); return turns(x) ^ a; }
    }

    static class Horse extends Thing {
        Horse(Model m, int n, int a, int p, int c) { super(m, n, a, p, c); }
        int kind() { return 1; }
        int lifts(int x) { m.ran(20); return super.lifts(x) * 3; }
    }

    static class Swan extends Thing {
        Swan(Model m, int n, int a, int p, int c) { super(m, n, a, p, c); }
        int kind() { return 2; }
        int factor() { return 2; }
        long teeth(int t) { return t / 2; }
        int turns(int x) { m.ran(30); return super.turns(x) - a; }
    }

    static class Lame extends Thing {
        Lame(Model m, int n, int a, int p, int c) { super(m, n, a, p, c); }
        int kind() { return 4; }
        long teeth(int t) { return t + t / 7; }
        int shares(int x) { m.ran(40); return super.shares(x + 1); }
    }

    static class White extends Horse {
        White(Model m, int n, int a, int p, int c) { super(m, n, a, p, c); }
        int kind() { return 3; }
        int more() { return 1; }
        int lifts(int x) { m.ran(50); return super.lifts(x) ^ n; }
        int tells(int x) { m.ran(51); return super.tells(x) + shares(n); }
    }

    static class Ostrich extends Swan {
        Ostrich(Model m, int n, int a, int p, int c) { super(m, n, a, p, c); }
        int kind() { return 5; }
        long teeth(int t) { return t / 2 + (t & 1); }
        int turns(int x) { m.ran(60); return 0 - super.turns(x); }
        int shares(int x) { m.ran(61); return super.shares(x) + lifts(a); }
    }

    static final Class<?>[] CLASSES = {Thing.class, Horse.class, Swan.class, White.class, Lame.class, Ostrich.class};
    static final Class<?>[] ROWS = {byte[].class, short[].class, int[].class, long[].class, boolean[].class};

    static Thing make(Model m, int kind, int n, int a, int p, int c) {
        switch (kind) {
            case 1: return new Horse(m, n, a, p, c);
            case 2: return new Swan(m, n, a, p, c);
            case 3: return new White(m, n, a, p, c);
            case 4: return new Lame(m, n, a, p, c);
            default: return new Ostrich(m, n, a, p, c);
        }
    }

    record Asked(int level, int crank, int phase, int price, int number) { }
    record Rule(Class<?> of, Function<Asked, Boolean> holds, String deed, int n) { }
    record Snap(int i, int t, int h) { }
    static final class Kid {
        int wish, coins, rides = -9;
        Kid(int w, int c) { wish = w; coins = c; }
    }

    static final class Model {
        List<Thing> ring = new ArrayList<>();
        List<Rule> rules = new ArrayList<>();
        List<Kid> kids = new ArrayList<>();
        List<Snap> snaps = new ArrayList<>();
        int level = 3, turn = 0;
        Model kept;
        StringBuilder tape = new StringBuilder();
        List<int[]> proof = new ArrayList<>();
        Object[] sheets = new Object[4];
        Object[] shelves = new Object[4];
        List<Integer> trace = new ArrayList<>();

        void ran(int body) { if (trace.size() < 30) trace.add(body); }
        boolean is(int i) { return i >= 0 && i < ring.size(); }
        static boolean in(int v, int a, int b) { return a <= v && v <= b; }

        Rule ruleOf(Thing g, int phase, int lev) {
            for (Rule r : rules) if (r.of.isInstance(g) && r.holds.apply(new Asked(lev, g.a, phase, g.price, g.n))) return r;
            return null;
        }
        int priceNow(Thing g) {
            Rule r = ruleOf(g, g.phase, level);
            int p = g.price;
            if (r != null && r.deed.equals("free")) p = 0;
            if (r != null && r.deed.equals("dear")) p += r.n;
            return p * g.factor();
        }
        int place(Thing g, int phase, int askPhase, int lev, int t) {
            Rule r = ruleOf(g, askPhase, lev);
            long teeth = g.teeth(t);
            if (r != null && r.deed.equals("slow")) teeth /= 2;
            if (r != null && r.deed.equals("stop")) teeth = 0;
            return (int) ((phase + teeth) % g.a);
        }
        int up(Thing g, int place) { return Math.min(place, g.a - place) + g.more(); }
        int height(Thing g, int t) { return up(g, place(g, g.phase, g.phase, level, t)); }
        boolean hi(Thing g, int t) { return height(g, t) >= level; }
        int highs(int t) { int s = 0; for (Thing g : ring) if (hi(g, t)) s |= 1 << g.n; return s; }
        List<int[]> beside() {
            List<int[]> l = new ArrayList<>();
            for (int i = 0; i + 1 < ring.size(); i++) l.add(new int[] {i, i + 1});
            if (ring.size() >= 3) l.add(new int[] {ring.size() - 1, 0});
            return l;
        }
        int clashAt(int t) {
            int s = highs(t);
            for (int[] p : beside()) if ((s >> p[0] & s >> p[1] & 1) != 0) return p[0];
            return -3;
        }
        boolean isRing(Thing g, int t) { return (g.n + t) % ring.size() == 0 && hi(g, t); }

        int animal(int kind, int crank, int phase, int price) {
            if (!in(kind, 1, 5) || !in(crank, 2, 12) || !in(phase, 0, 11) || !in(price, 0, 99)) return -1;
            if (ring.size() == 9) return -2;
            ring.add(make(this, kind, ring.size(), crank, phase, price));
            return ring.size() - 1;
        }
        int animalOf(int i, int what) {
            if (!is(i) || !in(what, 0, 6)) return -1;
            Thing g = ring.get(i);
            Rule r = ruleOf(g, g.phase, level);
            int go = r == null ? 0 : r.deed.equals("slow") ? 1 : r.deed.equals("stop") ? 2 : 0;
            return new int[] {g.kind(), g.a, g.phase, g.price, priceNow(g), go, height(g, turn)}[what];
        }
        int change(int i, int what, int v) {
            if (!is(i)) return -1;
            Thing g = ring.get(i);
            int was;
            if (what == 1 && in(v, 2, 12)) { was = g.a; g.a = v; return was; }
            if (what == 2 && in(v, 0, 11)) { was = g.phase; g.phase = v; return was; }
            if (what == 3 && in(v, 0, 99)) { was = g.price; g.price = v; return was; }
            return -1;
        }
        int paint(int i, int kind) {
            if (!is(i) || !in(kind, 1, 5)) return -1;
            Thing g = ring.get(i);
            ring.set(i, make(this, kind, i, g.a, g.phase, g.price));
            return g.kind();
        }
        int level(int v) { if (!in(v, 0, 7)) return -1; int was = level; level = v; return was; }
        int turn(int n) {
            if (!in(n, 1, 500)) return -1;
            if (turn + n > 9999) return -4;
            return turn += n;
        }
        int slip(int i, int n) {
            if (!is(i) || !in(n, -11, 11)) return -1;
            Thing g = ring.get(i);
            int was = g.phase;
            g.phase = Math.floorMod(g.phase + n, g.a);
            return was;
        }
        int feed(long eight, int n) {
            if (!in(n, 1, 8)) return -1;
            if (tape.length() + n > 200) return -2;
            for (int k = 0; k < n; k++, eight >>>= 8) tape.append((char) (eight & 0xff));
            return tape.length();
        }
        int rules() {
            String text = tape.toString();
            tape.setLength(0);
            int fault = Text.fault(text);
            if (fault >= 0) return -100 - fault;
            rules = new Text(text).rules();
            return rules.size();
        }
        static boolean turnOk(int t) { return in(t, 0, 9999); }
        int height(int i, int t) { return is(i) && turnOk(t) ? height(ring.get(i), t) : -1; }
        int high(int t) { return turnOk(t) ? highs(t) : -1; }
        int clash(int t) { return turnOk(t) ? clashAt(t) : -1; }
        int nextClash(int t) {
            if (!turnOk(t)) return -1;
            for (int u = t; u < t + 200; u++) if (clashAt(u) >= 0) return u;
            return -3;
        }
        int quiet(int t, int n) {
            if (!turnOk(t) || !in(n, 1, 200)) return -1;
            int best = 0;
            for (int a = t, start = t; a < t + n; a++) {
                if (clashAt(a) >= 0) start = a + 1;
                best = Math.max(best, a + 1 - start);
            }
            return best;
        }
        int rings(int i, int t, int n) {
            if (!is(i) || !turnOk(t) || !in(n, 1, 200)) return -1;
            int c = 0;
            for (int u = t; u < t + n; u++) if (isRing(ring.get(i), u)) c++;
            return c;
        }
        int firstRing(int i, int t) {
            if (!is(i) || !turnOk(t)) return -1;
            for (int u = t; u < t + 200; u++) if (isRing(ring.get(i), u)) return u;
            return -3;
        }
        int mostRings(int t, int n) {
            if (!turnOk(t) || !in(n, 1, 200)) return -1;
            int who = -3;
            for (Thing g : ring) if (who < 0 || rings(g.n, t, n) > rings(who, t, n)) who = g.n;
            return who;
        }
        int levelFor(int t, int n) {
            if (!turnOk(t) || !in(n, 1, 200)) return -1;
            int was = level;
            try {
                for (level = 0; level <= 7; level++) if (quiet(t, n) == n) return level;
                return -3;
            } finally {
                level = was;
            }
        }
        int phases(int i) {
            if (!is(i)) return -1;
            Thing g = ring.get(i);
            int was = g.phase, set = 0;
            for (int p = 0; p < g.a; p++) {
                g.phase = p;
                boolean never = true;
                for (int t = 0; t <= 99; t++)
                    for (int[] pair : beside())
                        if ((pair[0] == i || pair[1] == i) && hi(ring.get(pair[0]), t) && hi(ring.get(pair[1]), t)) never = false;
                if (never) set |= 1 << p;
            }
            g.phase = was;
            return set;
        }
        int[] tunedRow() {
            int n = ring.size();
            boolean[][][] hi = new boolean[n][12][100];
            for (Thing g : ring)
                for (int p = 0; p < g.a; p++)
                    for (int t = 0; t < 100; t++) hi[g.n][p][t] = up(g, place(g, p, g.phase, level, t)) >= level;
            int[] row = new int[n];
            return tunedFrom(0, row, hi, new java.util.HashSet<>()) ? row : null;
        }
        boolean meet(boolean[] a, boolean[] b) { for (int t = 0; t < 100; t++) if (a[t] && b[t]) return true; return false; }
        boolean tunedFrom(int i, int[] row, boolean[][][] hi, java.util.Set<List<Integer>> dead) {
            if (i == row.length) return true;
            if (i > 0 && dead.contains(List.of(i, row[i - 1], row[0]))) return false;
            for (int p = 0; p < ring.get(i).a; p++) {
                if (i > 0 && meet(hi[i - 1][row[i - 1]], hi[i][p])) continue;
                if (i > 1 && i == row.length - 1 && meet(hi[0][row[0]], hi[i][p])) continue;
                row[i] = p;
                if (tunedFrom(i + 1, row, hi, dead)) return true;
            }
            if (i > 0) dead.add(List.of(i, row[i - 1], row[0]));
            return false;
        }
        int tune(int i) {
            if (!is(i)) return -1;
            int[] row = tunedRow();
            return row == null ? -3 : row[i];
        }
        int tuneAll() {
            int[] row = tunedRow();
            if (row == null) return -3;
            int others = 0;
            for (Thing g : ring) { if (g.phase != row[g.n]) others++; g.phase = row[g.n]; }
            return others;
        }
        boolean down(Thing g, int t) { return place(g, g.phase, g.phase, level, t) == 0; }
        int organ(int i, int roll, int beat) {
            if (!is(i) || !in(roll, 2, 60) || !in(beat, 0, roll - 1)) return -1;
            for (int t = 0; t <= 999; t++) if (t % roll == beat && down(ring.get(i), t)) return t;
            return -3;
        }
        boolean setOk(int set) { return set >= 0 && (set >> ring.size()) == 0; }
        int together(int set, int t) {
            if (!setOk(set) || !turnOk(t)) return -1;
            for (int u = t; u < t + 1000; u++) {
                boolean all = true;
                for (Thing g : ring) if ((set >> g.n & 1) == 1 && !down(g, u)) all = false;
                if (all) return u;
            }
            return -3;
        }
        int slipped(int t, int set) {
            if (!setOk(set) || !turnOk(t)) return -1;
            for (Thing g : ring) {
                int was = slip(g.n, 1);
                int s = highs(t);
                g.phase = was;
                if (s == set) return g.n;
            }
            return -3;
        }
        int child(int wish, int coins) {
            if (!setOk(wish) || !in(coins, 0, 999)) return -1;
            if (kids.size() == 8) return -2;
            kids.add(new Kid(wish, coins));
            return kids.size() - 1;
        }
        boolean kid(int c) { return in(c, 0, kids.size() - 1); }
        int childOf(int c, int what) {
            if (!kid(c) || !in(what, 0, 2)) return -1;
            Kid k = kids.get(c);
            return what == 0 ? k.wish : what == 1 ? k.coins : k.rides;
        }
        int coins(int c, int v) {
            if (!kid(c) || !in(v, 0, 999)) return -1;
            int was = kids.get(c).coins;
            kids.get(c).coins = v;
            return was;
        }
        int bestSum;
        int[] bestSeats;
        int[] nowPrices;
        int[] seating() {
            bestSum = -1;
            nowPrices = new int[ring.size()];
            for (Thing g : ring) nowPrices[g.n] = priceNow(g);
            seatFrom(0, new int[kids.size()], 0, 0);
            return bestSeats;
        }
        void seatFrom(int c, int[] seats, int used, int sum) {
            if (c == seats.length) {
                if (sum > bestSum) { bestSum = sum; bestSeats = seats.clone(); }
                return;
            }
            int hope = sum;
            for (int k = c; k < seats.length; k++) {
                int top = 0;
                for (Thing g : ring) if (may(kids.get(k), g) && (used >> g.n & 1) == 0) top = Math.max(top, nowPrices[g.n]);
                hope += top;
            }
            if (hope <= bestSum) return;
            for (Thing g : ring) {
                if ((used >> g.n & 1) == 0 && may(kids.get(c), g)) {
                    seats[c] = g.n;
                    seatFrom(c + 1, seats, used | 1 << g.n, sum + nowPrices[g.n]);
                }
            }
            seats[c] = -3;
            seatFrom(c + 1, seats, used, sum);
        }
        boolean may(Kid k, Thing g) { return (k.wish >> g.n & 1) == 1 && nowPrices[g.n] <= k.coins; }
        int seats() { seating(); return bestSum; }
        int seat(int c) { return kid(c) ? seating()[c] : -1; }
        int ride() {
            int[] s = seating();
            int n = 0;
            for (int c = 0; c < s.length; c++) if (s[c] >= 0) { n++; kids.get(c).coins -= nowPrices[s[c]]; kids.get(c).rides = s[c]; }
            return n;
        }
        int away() { int n = kids.size(); kids.clear(); return n; }
        int photo(int i, int t, int h) {
            if (!is(i) || !turnOk(t) || !in(h, 0, 9)) return -1;
            if (snaps.size() == 6) return -2;
            snaps.add(new Snap(i, t, h));
            return snaps.size() - 1;
        }
        int burn() { int n = snaps.size(); snaps.clear(); return n; }
        int fitsBut(int i, int but) {
            Thing g = ring.get(i);
            int set = 0;
            for (int p = 0; p < g.a; p++) {
                boolean all = true;
                for (int k = 0; k < snaps.size(); k++) {
                    Snap s = snaps.get(k);
                    if (k != but && s.i == i && up(g, place(g, p, p, level, s.t)) != s.h) all = false;
                }
                if (all) set |= 1 << p;
            }
            return set;
        }
        int fits(int i) { return is(i) ? fitsBut(i, -1) : -1; }
        int liar(int i) {
            if (!is(i)) return -1;
            if (fitsBut(i, -1) != 0) return -3;
            for (int k = 0; k < snaps.size(); k++) if (snaps.get(k).i == i && fitsBut(i, k) != 0) return k;
            return -3;
        }
        int[] proofOf(Thing g, int t) {
            int place = place(g, g.phase, g.phase, level, t);
            return new int[] {t, place, up(g, place)};
        }
        int prove(int i, int t, int n) {
            if (!is(i) || !turnOk(t) || !in(n, 1, 20)) return -1;
            proof.clear();
            for (int u = t; u < t + n; u++) proof.add(proofOf(ring.get(i), u));
            return n;
        }
        int row(int k, int what) { return in(k, 0, proof.size() - 1) && in(what, 0, 2) ? proof.get(k)[what] : -9; }
        int alterRow(int k, int what, int v) {
            int was = row(k, what);
            if (in(k, 0, proof.size() - 1) && in(what, 0, 2)) proof.get(k)[what] = v;
            return was;
        }
        int judge(int i) {
            if (!is(i)) return -1;
            for (int k = 0; k < proof.size(); k++) {
                int[] r = proof.get(k);
                if (r[0] < 0 || r[0] > 99999) return k + 1;
                if (k > 0 && r[0] != proof.get(k - 1)[0] + 1) return k + 1;
                if (!Arrays.equals(r, proofOf(ring.get(i), r[0]))) return k + 1;
            }
            return 0;
        }
        int sheet(int s, int sort, int n) {
            if (!in(s, 0, 3) || !in(sort, -1, 4) || sort >= 0 && n > 40) return -1;
            if (sort == -1) { sheets[s] = null; return 1; }
            try {
                sheets[s] = java.lang.reflect.Array.newInstance(ROWS[sort].getComponentType(), n);
                return 1;
            } catch (NegativeArraySizeException e) {
                return -14;
            }
        }
        interface Ask { int get(); }
        static int hosted(Ask a) {
            try {
                return a.get();
            } catch (NullPointerException e) {
                return -11;
            } catch (ArrayIndexOutOfBoundsException e) {
                return -12;
            } catch (ClassCastException e) {
                return -13;
            } catch (ArithmeticException e) {
                return -15;
            }
        }
        int write(int s, int i, int v) {
            if (!in(s, 0, 3)) return -1;
            return hosted(() -> {
                Object o = sheets[s];
                if (o instanceof byte[] b) b[i] = (byte) v;
                else if (o instanceof short[] b) b[i] = (short) v;
                else if (o instanceof long[] b) b[i] = v;
                else if (o instanceof boolean[] b) b[i] = v != 0;
                else ((int[]) o)[i] = v;
                return 1;
            });
        }
        int item(int s, int sort, int i) {
            if (!in(s, 0, 3) || !in(sort, 0, 4)) return -1;
            return hosted(() -> {
                switch (sort) {
                    case 0: return ((byte[]) sheets[s])[i];
                    case 1: return ((short[]) sheets[s])[i];
                    case 2: return ((int[]) sheets[s])[i];
                    case 3: return (int) ((long[]) sheets[s])[i];
                    default: return ((boolean[]) sheets[s])[i] ? 1 : 0;
                }
            });
        }
        int sets(int s, int k, int n) {
            if (!in(s, 0, 3) || !in(n, 0, 9)) return -1;
            return hosted(() -> {
                byte[] b = java.util.Objects.requireNonNull((byte[]) sheets[s]);
                int came = 0;
                for (int j = 0; j < n; j++) if (change(j, 2, b[k + j]) >= 0) came++;
                return came;
            });
        }
        int shelf(int s, int what, int n) {
            if (!in(s, 0, 3) || !in(what, 0, 2)) return -1;
            if (what == 0 && !is(n) || what == 1 && !in(n, 0, 3)) return -1;
            shelves[s] = what == 0 ? (Object) Integer.valueOf(n) : what == 1 ? sheets[n] : null;
            return 1;
        }
        Object on(int s) {
            if (shelves[s] instanceof Integer n) return is(n) ? ring.get(n) : null;
            return shelves[s];
        }
        int taken(int s, int as) {
            if (!in(s, 0, 3) || !in(as, 0, 5) && !in(as, 10, 14)) return -1;
            return hosted(() -> {
                if (as < 10) return ((Thing) CLASSES[as].cast(on(s))).n;
                return java.lang.reflect.Array.getLength(ROWS[as - 10].cast(on(s)));
            });
        }
        int act(int s, int act, int x) {
            trace.clear();
            if (!in(s, 0, 3) || !in(act, 0, 3) || !(on(s) instanceof Thing g)) return 0;
            return hosted(() -> act == 0 ? g.lifts(x) : act == 1 ? g.turns(x) : act == 2 ? g.shares(x) : g.tells(x));
        }
        int trace(int i) { return in(i, 0, trace.size() - 1) ? trace.get(i) : -3; }
        int many(int what) {
            if (!in(what, 0, 6)) return -1;
            return new int[] {ring.size(), rules.size(), kids.size(), snaps.size(), proof.size(), tape.length(), trace.size()}[what];
        }
        void copyKept(Model from, Model owner) {
            ring = new ArrayList<>();
            for (Thing g : from.ring) ring.add(make(owner, g.kind(), g.n, g.a, g.phase, g.price));
            rules = new ArrayList<>(from.rules);
            kids = new ArrayList<>();
            for (Kid k : from.kids) { Kid c = new Kid(k.wish, k.coins); c.rides = k.rides; kids.add(c); }
            snaps = new ArrayList<>(from.snaps);
            level = from.level;
            turn = from.turn;
        }
        int keep() { kept = new Model(); kept.copyKept(this, this); return 1; }
        int again() { if (kept == null) return -3; copyKept(kept, this); return ring.size(); }
    }

    /** The TEXT by regular expressions: a place is at fault if no TEXT begins with all up to it. */
    static final class Text {
        static final Pattern TOKEN = Pattern.compile("[a-z]+|[0-9]+|[^ ]", Pattern.DOTALL);
        static final Pattern GRAMMAR = grammar();
        final List<String> tokens = new ArrayList<>();
        int at;

        static Pattern grammar() {
            String compare = "[12v][<=>][12v]";
            String one = "n*+" + compare;
            String cond = "";
            for (int depth = 0; depth <= 3; depth++) {
                String all = one + "(?:a" + one + ")*";
                cond = all + "(?:o" + all + ")*";
                one = "n*+(?:" + compare + "|\\(" + cond + "\\))";
            }
            return Pattern.compile("(?:k(?:i" + cond + ")?(?:[fst]|d1);){0,8}");
        }
        static char sign(String token) {
            if (token.matches("[0-9]{1,4}")) return Integer.parseInt(token) <= 99 ? '1' : '2';
            if (token.matches("[<=>();]")) return token.charAt(0);
            switch (token) {
                case "animal": case "horse": case "swan": case "white": case "lame": case "ostrich": return 'k';
                case "level": case "crank": case "phase": case "price": case "number": return 'v';
                case "if": return 'i';
                case "free": return 'f';
                case "dear": return 'd';
                case "slow": return 's';
                case "stop": return 't';
                case "or": return 'o';
                case "and": return 'a';
                case "not": return 'n';
                default: return 'x';
            }
        }
        /** The FAULT, or -1. */
        static int fault(String text) {
            Matcher m = TOKEN.matcher(text);
            String signs = "";
            while (m.find()) {
                signs += sign(m.group());
                Matcher g = GRAMMAR.matcher(signs);
                if (!g.matches() && !g.hitEnd()) return m.start();
            }
            return GRAMMAR.matcher(signs).matches() ? -1 : text.length();
        }
        Text(String text) { Matcher m = TOKEN.matcher(text); while (m.find()) tokens.add(m.group()); tokens.add(""); }
        String next() { return tokens.get(at++); }
        boolean skips(String s) { if (!tokens.get(at).equals(s)) return false; at++; return true; }
        List<Rule> rules() {
            List<Rule> l = new ArrayList<>();
            while (at + 1 < tokens.size()) {
                Class<?> of = CLASSES[List.of("animal", "horse", "swan", "white", "lame", "ostrich").indexOf(next())];
                Function<Asked, Boolean> holds = skips("if") ? cond() : f -> true;
                String deed = next();
                int n = deed.equals("dear") ? Integer.parseInt(next()) : 0;
                next();
                l.add(new Rule(of, holds, deed, n));
            }
            return l;
        }
        Function<Asked, Boolean> cond() {
            Function<Asked, Boolean> left = all();
            if (!skips("or")) return left;
            Function<Asked, Boolean> right = cond();
            return f -> left.apply(f) || right.apply(f);
        }
        Function<Asked, Boolean> all() {
            Function<Asked, Boolean> left = one();
            if (!skips("and")) return left;
            Function<Asked, Boolean> right = all();
            return f -> left.apply(f) && right.apply(f);
        }
        Function<Asked, Boolean> one() {
            if (skips("not")) { Function<Asked, Boolean> c = one(); return f -> !c.apply(f); }
            if (skips("(")) { Function<Asked, Boolean> c = cond(); next(); return c; }
            Function<Asked, Integer> a = value();
            String sign = next();
            Function<Asked, Integer> b = value();
            return f -> sign.equals("<") ? a.apply(f) < b.apply(f) : sign.equals(">") ? a.apply(f) > b.apply(f) : a.apply(f).equals(b.apply(f));
        }
        Function<Asked, Integer> value() {
            switch (next()) {
                case "level": return Asked::level;
                case "crank": return Asked::crank;
                case "phase": return Asked::phase;
                case "price": return Asked::price;
                case "number": return Asked::number;
                default: int n = Integer.parseInt(tokens.get(at - 1)); return f -> n;
            }
        }
    }

    // ---- the runs

    private static long seed;

    /** 0 to n - 1, by a counter that goes its way. */
    private static int some(int n) {
        seed = seed * 6364136223846793005L + 1442695040888963407L;
        return (int) Math.floorMod(seed >>> 33, (long) n);
    }

    /** A number a to b as a rule; seldom one beside that, or far away. */
    private static int num(int a, int b) {
        if (some(14) > 0) return a + some(b - a + 1);
        int[] odd = {a - 1, b + 1, -1, 0, 1, Integer.MAX_VALUE, Integer.MIN_VALUE, b + 7};
        return odd[some(odd.length)];
    }

    private static String pick(String... words) { return words[some(words.length)]; }

    private static String value() {
        return some(3) == 0 ? "" + some(some(2) == 0 ? 13 : 110) : pick("level", "crank", "phase", "price", "number");
    }

    private static String cond(int depth) {
        String s = "";
        int parts = 1 + some(3);
        for (int k = 0; k < parts; k++) {
            if (k > 0) s += pick(" and ", " or ");
            while (some(4) == 0) s += "not ";
            s += depth < 3 && some(3) == 0 ? "(" + cond(depth + 1) + ")" : value() + pick("<", "=", ">", " < ") + value();
        }
        return s;
    }

    private static String text() {
        String s = "";
        boolean isLong = some(8) == 0;
        int n = isLong ? 6 + some(4) : some(5);
        for (int k = 0; k < n; k++) {
            s += pick("animal", "horse", "swan", "white", "lame", "ostrich") + " ";
            if (isLong) s += some(4) > 0 ? "if number=" + some(10) + " " : "";
            else if (some(3) > 0) s += "if " + cond(0) + " ";
            s += pick("free", "slow", "stop", "dear " + some(100), "dear" + some(105)) + pick(";", " ; ");
        }
        if (s.length() > 200) s = some(3) == 0 ? s.substring(0, 200) : pick("horse slow;", "animal if number > 2 stop;", "");
        if (some(3) == 0 && s.length() > 0) {
            int at = some(s.length());
            String put = pick("", "", "(", ")", ";", "or", " not ", "x", "9", "12345", "#", " ", "\u00e9", "A");
            s = s.substring(0, at) + put + s.substring(at + some(2));
        }
        return s.length() > 200 ? s.substring(0, 200) : s;
    }

    private static void same(int run, int k, List<String> told, String call, int got, int want) {
        told.add(call + " = " + got);
        if (got == want) return;
        wrong++;
        if (wrong <= 10) {
            System.out.println("run " + run + ", call " + k + ": " + call + " answered " + got + ", the model says " + want);
            System.out.println("  ahead of it: " + told.subList(Math.max(0, told.size() - 40), told.size() - 1));
        }
    }

    private static void feedText(int run, int k, List<String> told, RoundAndUp x, Model m, String text) {
        for (int at = 0; at < text.length(); at += 8) {
            long eight = 0;
            int n = Math.min(8, text.length() - at);
            for (int j = 0; j < n; j++) eight |= (long) text.charAt(at + j) << 8 * j;
            if (n < 8 && some(2) == 0) eight |= -1L << 8 * n;
            same(run, k, told, "feed(" + eight + ", " + n + ") '" + text + "'", x.feed(eight, n), m.feed(eight, n));
        }
        same(run, k, told, "rules()", x.rules(), m.rules());
    }

    private static void step(int run, int k, List<String> told, RoundAndUp x, Model m) {
        int top = Math.max(0, m.ring.size() - 1);
        int i = num(0, top), t = some(3) == 0 ? num(0, 9999) : num(0, 300), n = num(1, 200), s = num(0, 3);
        int set = num(0, (1 << m.ring.size()) - 1), c = num(0, Math.max(0, m.kids.size() - 1)), v, w;
        switch (some(57)) {
            case 0: case 1: v = num(1, 5); w = num(2, 12); int p = num(0, 11), r = num(0, some(2) == 0 ? 99 : 9);
                same(run, k, told, "animal(" + v + "," + w + "," + p + "," + r + ")", x.animal(v, w, p, r), m.animal(v, w, p, r)); break;
            case 2: v = num(0, 6); same(run, k, told, "animalOf(" + i + "," + v + ")", x.animalOf(i, v), m.animalOf(i, v)); break;
            case 3: v = num(1, 3); w = num(v == 1 ? 2 : 0, v == 3 ? 99 : 11);
                same(run, k, told, "change(" + i + "," + v + "," + w + ")", x.change(i, v, w), m.change(i, v, w)); break;
            case 4: v = num(1, 5); same(run, k, told, "paint(" + i + "," + v + ")", x.paint(i, v), m.paint(i, v)); break;
            case 5: v = some(2) == 0 ? num(0, 7) : num(2, 5); same(run, k, told, "level(" + v + ")", x.level(v), m.level(v)); break;
            case 6: v = num(1, 500); same(run, k, told, "turn(" + v + ")", x.turn(v), m.turn(v)); break;
            case 7: v = num(-11, 11); same(run, k, told, "slip(" + i + "," + v + ")", x.slip(i, v), m.slip(i, v)); break;
            case 8: long e = seed; v = num(1, 8); same(run, k, told, "feed(" + e + "," + v + ")", x.feed(e, v), m.feed(e, v)); break;
            case 9: same(run, k, told, "rules()", x.rules(), m.rules()); break;
            case 10: case 11: feedText(run, k, told, x, m, text()); break;
            case 12: same(run, k, told, "height(" + i + "," + t + ")", x.height(i, t), m.height(i, t)); break;
            case 13: same(run, k, told, "high(" + t + ")", x.high(t), m.high(t)); break;
            case 14: same(run, k, told, "clash(" + t + ")", x.clash(t), m.clash(t)); break;
            case 15: same(run, k, told, "nextClash(" + t + ")", x.nextClash(t), m.nextClash(t)); break;
            case 16: same(run, k, told, "quiet(" + t + "," + n + ")", x.quiet(t, n), m.quiet(t, n)); break;
            case 17: same(run, k, told, "rings(" + i + "," + t + "," + n + ")", x.rings(i, t, n), m.rings(i, t, n)); break;
            case 18: same(run, k, told, "firstRing(" + i + "," + t + ")", x.firstRing(i, t), m.firstRing(i, t)); break;
            case 19: same(run, k, told, "mostRings(" + t + "," + n + ")", x.mostRings(t, n), m.mostRings(t, n)); break;
            case 20: same(run, k, told, "levelFor(" + t + "," + n + ")", x.levelFor(t, n), m.levelFor(t, n)); break;
            case 21: same(run, k, told, "phases(" + i + ")", x.phases(i), m.phases(i)); break;
            case 22: for (int j = 0; j < m.ring.size(); j++) same(run, k, told, "tune(" + j + ")", x.tune(j), m.tune(j)); break;
            case 23: same(run, k, told, "tuneAll()", x.tuneAll(), m.tuneAll()); break;
            case 24: v = num(2, 60); w = num(0, Math.max(0, Math.min(60, v) - 1));
                same(run, k, told, "organ(" + i + "," + v + "," + w + ")", x.organ(i, v, w), m.organ(i, v, w)); break;
            case 25: same(run, k, told, "together(" + set + "," + t + ")", x.together(set, t), m.together(set, t)); break;
            case 26: case 27: v = set;
                if (some(3) > 0 && m.is(i) && Model.turnOk(t)) { int was = m.slip(i, 1); v = m.highs(t); m.ring.get(i).phase = was; }
                same(run, k, told, "slipped(" + t + "," + v + ")", x.slipped(t, v), m.slipped(t, v)); break;
            case 28: case 29: v = num(0, some(3) == 0 ? 999 : 60);
                same(run, k, told, "child(" + set + "," + v + ")", x.child(set, v), m.child(set, v)); break;
            case 30: v = num(0, 2); same(run, k, told, "childOf(" + c + "," + v + ")", x.childOf(c, v), m.childOf(c, v)); break;
            case 31: v = num(0, some(3) == 0 ? 999 : 60); same(run, k, told, "coins(" + c + "," + v + ")", x.coins(c, v), m.coins(c, v)); break;
            case 32: same(run, k, told, "seats()", x.seats(), m.seats()); break;
            case 33: same(run, k, told, "seat(" + c + ")", x.seat(c), m.seat(c)); break;
            case 34: same(run, k, told, "ride()", x.ride(), m.ride()); break;
            case 35: if (some(5) == 0) same(run, k, told, "away()", x.away(), m.away()); break;
            case 36: case 37: v = m.is(i) && Model.turnOk(t) && some(4) > 0 ? m.height(i, t) : num(0, 9);
                same(run, k, told, "photo(" + i + "," + t + "," + v + ")", x.photo(i, t, v), m.photo(i, t, v)); break;
            case 38: if (some(3) == 0) same(run, k, told, "burn()", x.burn(), m.burn()); break;
            case 39: same(run, k, told, "fits(" + i + ")", x.fits(i), m.fits(i)); break;
            case 40: same(run, k, told, "liar(" + i + ")", x.liar(i), m.liar(i)); break;
            case 41: v = num(1, 20); same(run, k, told, "prove(" + i + "," + t + "," + v + ")", x.prove(i, t, v), m.prove(i, t, v)); break;
            case 42: v = num(0, 19); w = num(0, 2); same(run, k, told, "row(" + v + "," + w + ")", x.row(v, w), m.row(v, w)); break;
            case 43: v = num(0, some(2) == 0 ? 3 : 19); w = num(0, 2); int to = some(2) == 0 ? num(0, 9) : x.row(v, w);
                same(run, k, told, "alterRow(" + v + "," + w + "," + to + ")", x.alterRow(v, w, to), m.alterRow(v, w, to)); break;
            case 44: same(run, k, told, "judge(" + i + ")", x.judge(i), m.judge(i)); break;
            case 45: v = some(2) == 0 ? 0 : num(-1, 4); w = num(0, some(2) == 0 ? 10 : 40);
                same(run, k, told, "sheet(" + s + "," + v + "," + w + ")", x.sheet(s, v, w), m.sheet(s, v, w)); break;
            case 46: case 47: v = num(0, 10); w = some(2) == 0 ? num(0, 11) : (int) seed;
                same(run, k, told, "write(" + s + "," + v + "," + w + ")", x.write(s, v, w), m.write(s, v, w)); break;
            case 48: v = num(0, 4); w = num(0, 10); same(run, k, told, "item(" + s + "," + v + "," + w + ")", x.item(s, v, w), m.item(s, v, w)); break;
            case 49: v = num(0, 3); w = num(0, 9); same(run, k, told, "sets(" + s + "," + v + "," + w + ")", x.sets(s, v, w), m.sets(s, v, w)); break;
            case 50: v = some(2) == 0 ? 0 : num(0, 2); w = v == 1 ? num(0, 3) : i;
                same(run, k, told, "shelf(" + s + "," + v + "," + w + ")", x.shelf(s, v, w), m.shelf(s, v, w)); break;
            case 51: v = some(2) == 0 ? num(0, 5) : num(10, 14); same(run, k, told, "taken(" + s + "," + v + ")", x.taken(s, v), m.taken(s, v)); break;
            case 52: case 53: v = num(0, 3); w = (int) seed;
                same(run, k, told, "act(" + s + "," + v + "," + w + ")", x.act(s, v, w), m.act(s, v, w));
                for (int j = -1; j < 12; j++) same(run, k, told, "trace(" + j + ")", x.trace(j), m.trace(j)); break;
            case 54: v = num(0, 6); same(run, k, told, "many(" + v + ")", x.many(v), m.many(v)); break;
            case 55: if (some(2) == 0) same(run, k, told, "keep()", x.keep(), m.keep()); break;
            default: if (some(4) == 0) same(run, k, told, "again()", x.again(), m.again()); break;
        }
    }

    /** A ring to begin with: of all sorts, or of cranks that are near to being tuned; often rules, shelves, a late turn. */
    private static void setUp(int run, List<String> told, RoundAndUp x, Model m) {
        boolean isEven = some(3) == 0;
        int kind = 1 + some(5), crank = 4 + 2 * some(5), level = crank / 2 - some(2);
        for (int k = some(10); k > 0; k--) {
            int v = isEven ? kind : 1 + some(5), w = isEven ? crank : 2 + some(11), p = some(12), r = some(100);
            same(run, 0, told, "animal(" + v + "," + w + "," + p + "," + r + ")", x.animal(v, w, p, r), m.animal(v, w, p, r));
        }
        if (isEven) {
            same(run, 0, told, "level(" + level + ")", x.level(level), m.level(level));
            same(run, 0, told, "tune(0)", x.tune(0), m.tune(0));
            same(run, 0, told, "tune(1)", x.tune(1), m.tune(1));
            same(run, 0, told, "tuneAll()", x.tuneAll(), m.tuneAll());
        }
        if (some(2) == 0) feedText(run, 0, told, x, m, text());
        for (int s = 0; s < 4 && some(3) > 0; s++) {
            int i = some(9);
            same(run, 0, told, "shelf(" + s + ",0," + i + ")", x.shelf(s, 0, i), m.shelf(s, 0, i));
            same(run, 0, told, "sheet(" + s + "," + s + ",6)", x.sheet(s, s, 6), m.sheet(s, s, 6));
        }
        if (some(8) == 0) for (int k = 0; k < 19; k++) same(run, 0, told, "turn(500)", x.turn(500), m.turn(500));
    }

    /** All that the object can be asked without a change, so that what a call must leave alone is seen. */
    private static void compareAll(int run, int k, List<String> told, RoundAndUp x, Model m) {
        for (int w = -1; w <= 7; w++) same(run, k, told, "many(" + w + ")", x.many(w), m.many(w));
        for (int i = -1; i <= m.ring.size(); i++)
            for (int w = -1; w <= 7; w++) same(run, k, told, "animalOf(" + i + "," + w + ")", x.animalOf(i, w), m.animalOf(i, w));
        for (int c = -1; c <= m.kids.size(); c++)
            for (int w = -1; w <= 3; w++) same(run, k, told, "childOf(" + c + "," + w + ")", x.childOf(c, w), m.childOf(c, w));
        for (int i = 0; i < m.ring.size(); i++) same(run, k, told, "liar(" + i + ")", x.liar(i), m.liar(i));
        for (int j = -1; j <= 20; j++)
            for (int w = -1; w <= 3; w++) same(run, k, told, "row(" + j + "," + w + ")", x.row(j, w), m.row(j, w));
        for (int s = 0; s < 4; s++)
            for (int sort = 0; sort < 5; sort++) {
                same(run, k, told, "taken(" + s + "," + (10 + sort) + ")", x.taken(s, 10 + sort), m.taken(s, 10 + sort));
                for (int j = 0; j < 11; j++) same(run, k, told, "item(" + s + "," + sort + "," + j + ")", x.item(s, sort, j), m.item(s, sort, j));
            }
    }

    public static void main(String[] args) {
        int runs = args.length > 0 ? Integer.parseInt(args[0]) : 500;
        int first = args.length > 1 ? Integer.parseInt(args[1]) : 0;
        for (int run = first; run < first + runs; run++) {
            seed = run * 7919L + 17;
            RoundAndUp x = new RoundAndUp();
            Model m = new Model();
            List<String> told = new ArrayList<>();
            int calls = 60 + some(300);
            setUp(run, told, x, m);
            for (int k = 0; k < calls; k++) {
                step(run, k, told, x, m);
                if (some(40) == 0) compareAll(run, k, told, x, m);
            }
            compareAll(run, calls, told, x, m);
        }
        System.out.println(wrong == 0 ? "all answers are the model's" : wrong + " answers are not the model's");
        if (wrong != 0) System.exit(1);
    }
}
