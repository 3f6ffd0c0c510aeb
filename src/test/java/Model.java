import java.math.BigInteger;
import java.util.ArrayList;
import java.util.List;

/** The document a second time, by plain trial of all that there is; only for tests. */
final class Model {
    static final class Person {
        int kind, figure, weight, entered, secrets, came;
        boolean in = true;
        Person twin() {
            Person p = new Person();
            p.kind = kind; p.figure = figure; p.weight = weight; p.entered = entered;
            p.secrets = secrets; p.came = came; p.in = in;
            return p;
        }
    }

    static final class World {
        List<Person> people = new ArrayList<>();
        int board = 2, dance = 3, relief = 0, day = 0;
        World twin() {
            World w = new World();
            for (Person p : people) w.people.add(p.twin());
            w.board = board; w.dance = dance; w.relief = relief; w.day = day;
            return w;
        }
        World on(int n) {
            World w = twin();
            for (int i = 0; i < n; i++) w.oneDay();
            return w;
        }
        void oneDay() {
            day++;
            for (Person p : people) if (p.in) {
                p.weight = Math.min(99, p.weight + eats(p, board));
                p.weight = Math.max(0, p.weight - dances(p, dance));
            }
            leave();
        }
        void leave() {
            for (Person p : people) if (may(p, day)) {
                p.in = false;
                relief = Math.min(9999, relief + p.entered - p.weight);
            }
        }
        int bits() {
            int b = 0;
            for (int g = 0; g < people.size(); g++) if (people.get(g).in) b += 1 << g;
            return b;
        }
        int weightIn() {
            int s = 0;
            for (Person p : people) if (p.in) s += p.weight;
            return s;
        }
    }

    static int rings(Person p) {
        int[] by = {0, p.figure, 0, p.figure / 2, 2 * p.figure, p.figure / 2 + 1, 0, p.figure};
        return by[p.kind];
    }
    static int eats(Person p, int b) {
        int[] by = {b, b / 2, b + 1, b, b / 2 + 2, 2 * b, b > 1 ? b - 1 : 0, b / 2};
        return by[p.kind];
    }
    static int dances(Person p, int d) {
        int child = d + p.figure / 3;
        int[] by = {d, 1, child, d, 1, d > 0 ? d - 1 : 0, child / 2, 1 + d};
        return by[p.kind];
    }
    static int secret(Person p) {
        int[] by = {1, p.figure / 2, 0, 1, p.figure / 2 + 1, 3, 1, p.figure / 2};
        return by[p.kind];
    }
    static int stays(Person p) {
        int[] by = {0, 0, p.figure, 0, 9, 0, p.figure, 0};
        return by[p.kind];
    }
    static int price(int kind, int f) {
        int[] by = {2, 2 + f, 1, 5, 4 + 2 * f, 0, 0, 1 + f};
        return by[kind];
    }
    static boolean may(Person p, int day) {
        return p.in && p.weight < p.entered && day - p.came >= stays(p);
    }

    World w = new World();
    World kept = null;
    /** A shelf: null, {kind, figure}, or {100 + sort, elements ..}. */
    final int[][] shelf = new int[8][];

    boolean known(int g) { return g >= 0 && g < w.people.size(); }
    boolean two(int a, int b) { return known(a) && known(b) && a != b; }
    boolean isRow(int d) { return shelf[d] != null && shelf[d][0] >= 100; }
    static boolean in(int n, int lo, int hi) { return n >= lo && n <= hi; }
    int rowRefusal(int d) { return shelf[d] == null ? -11 : isRow(d) ? 0 : -12; }
    int kindRefusal(int d) { return shelf[d] == null ? -11 : isRow(d) ? -12 : 0; }

    int house(int d) {
        if (!in(d, 0, 7)) return -1;
        if (rowRefusal(d) != 0) return rowRefusal(d);
        if (shelf[d][0] != 100) return -12;
        StringBuilder b = new StringBuilder();
        for (int i = 1; i < shelf[d].length; i++) b.append((char) (shelf[d][i] & 255));
        String t = b.toString();
        for (int i = 0; i < t.length(); i++) if (!isStart(t.substring(0, i + 1))) return -1000 - i;
        if (!t.endsWith(";")) return -1000 - t.length();
        World trial = w.twin();
        int place = 0, n = 0;
        for (String s : t.split(";")) {
            if (!statement(trial, s)) return -2000 - place;
            place += s.length() + 1;
            n++;
        }
        w = trial;
        return n;
    }
    static boolean isStart(String t) {
        String last = t.substring(t.lastIndexOf(';', t.length() - 2) + 1);
        for (String form : new String[] {"g0000;", "b00;", "t0;", "l0000;", "s00;", "d00;"}) {
            String shape = last.replaceAll("[0-9]", "0");
            if (form.startsWith(shape)) return true;
        }
        return false;
    }
    static boolean statement(World v, String s) {
        int a = s.charAt(1) - '0';
        int b = s.length() > 2 ? s.charAt(2) - '0' : 0;
        int last = s.length() > 4 ? Integer.parseInt(s.substring(3)) : 0;
        int n = v.people.size();
        switch (s.charAt(0)) {
            case 'g':
                if (a > 7 || n == 7) return false;
                v.people.add(newcomer(v, a, b, last));
                return true;
            case 'b':
                v.board = a;
                v.dance = b;
                return true;
            case 't': {
                if (a >= n) return false;
                return tell(v.people.get(a));
            }
            case 'l':
                if (a >= n || b >= n || a == b || last < 1 || last > 20) return false;
                return lend(v.people.get(a), v.people.get(b), last);
            case 's':
                if (a >= n) return false;
                v.people.get(a).secrets = b;
                return true;
            default: {
                int days = 10 * a + b;
                if (days < 1 || days > 60 || v.day + days > 999) return false;
                for (int i = 0; i < days; i++) v.oneDay();
                return true;
            }
        }
    }
    static Person newcomer(World v, int kind, int figure, int weight) {
        Person p = new Person();
        p.kind = kind; p.figure = figure; p.weight = weight;
        p.entered = weight + rings(p); p.secrets = 3; p.came = v.day;
        return p;
    }
    static boolean tell(Person p) {
        if (!p.in || p.secrets == 0) return false;
        p.secrets--;
        p.weight = Math.max(0, p.weight - secret(p));
        return true;
    }
    static boolean lend(Person a, Person b, int n) {
        if (!a.in || !b.in || a.weight < n || b.weight + n > 99) return false;
        a.weight -= n;
        b.weight += n;
        return true;
    }

    int guest(int g, int what) {
        if (!known(g) || !in(what, 0, 8)) return -1;
        Person p = w.people.get(g);
        int[] all = {p.kind, p.figure, p.weight, p.entered, p.secrets, p.came, p.in ? 1 : 0,
            may(p, w.day) ? 1 : 0, p.in && p.weight >= p.entered ? p.weight - p.entered + 1 : 0};
        return all[what];
    }
    int comes(int d, int weight) {
        if (!in(d, 0, 7) || !in(weight, 0, 99)) return -1;
        if (kindRefusal(d) != 0) return kindRefusal(d);
        if (w.people.size() == 7) return -2;
        w.people.add(newcomer(w, shelf[d][0], shelf[d][1], weight));
        return w.people.size() - 1;
    }
    int tells(int g) {
        if (!known(g)) return -1;
        return tell(w.people.get(g)) ? w.people.get(g).weight : -3;
    }
    int lends(int g, int o, int n) {
        if (!two(g, o) || !in(n, 1, 20)) return -1;
        return lend(w.people.get(g), w.people.get(o), n) ? w.people.get(g).weight : -3;
    }
    int table(int b, int d) {
        if (!in(b, 0, 9) || !in(d, 0, 9)) return -1;
        int old = 10 * w.board + w.dance;
        w.board = b;
        w.dance = d;
        return old;
    }
    int weighs(int g, int n) {
        if (!known(g) || !in(n, 0, 99)) return -1;
        Person p = w.people.get(g);
        if (!p.in) return -3;
        int old = p.weight;
        p.weight = n;
        return old;
    }
    int days(int n) {
        if (!in(n, 1, 60)) return -1;
        if (w.day + n > 999) return -3;
        w = w.on(n);
        return w.relief;
    }
    int weightThen(int g, int n) {
        return known(g) && in(n, 0, 60) ? w.on(n).people.get(g).weight : -1;
    }
    int then(int n, int what) {
        if (!in(n, 0, 60) || !in(what, 0, 2)) return -1;
        World v = w.on(n);
        return what == 0 ? v.bits() : what == 1 ? v.relief : v.weightIn();
    }
    int leaves(int g) {
        if (g != -1 && !known(g)) return -1;
        for (int n = 0; n <= 60; n++) {
            World v = w.on(n);
            if (g >= 0 && !v.people.get(g).in) return n;
            for (int k = 0; g == -1 && k < v.people.size(); k++) {
                if (w.people.get(k).in && !v.people.get(k).in) return k;
            }
        }
        return -4;
    }
    int order(int i) {
        if (i < -1) return -1;
        List<Integer> all = new ArrayList<>();
        for (int g = 0; g < w.people.size(); g++) if (w.people.get(g).in) all.add(g);
        all.sort((a, b) -> Integer.compare(w.people.get(a).weight, w.people.get(b).weight));
        if (i >= 0) return i < all.size() ? all.get(i) : -4;
        if (all.isEmpty()) return -4;
        int most = w.people.get(all.get(all.size() - 1)).weight;
        for (int g : all) if (w.people.get(g).weight == most) return g;
        return -4;
    }
    int feed(int n, int what) {
        if (!in(n, 0, 60) || !in(what, 0, 1)) return -1;
        int board = -1, most = -1;
        for (int b = 9; b >= 0; b--) {
            World v = w.twin();
            v.board = b;
            int r = v.on(n).relief;
            if (r >= most) { most = r; board = b; }
        }
        return what == 0 ? board : most;
    }
    int empty(int n) {
        if (!in(n, 0, 60)) return -1;
        for (int d = 0; d < 10; d++) {
            World v = w.twin();
            v.dance = d;
            if (v.on(n).bits() == 0) return d;
        }
        return -4;
    }
    int tell(int g) {
        if (!known(g)) return -1;
        if (!w.people.get(g).in) return -3;
        World v = w.twin();
        for (int k = 0; k < 10; k++) {
            if (!v.on(1).people.get(g).in) return k;
            if (!tell(v.people.get(g))) return -4;
        }
        return -4;
    }
    int loan(int g, int o) {
        if (!two(g, o)) return -1;
        if (!w.people.get(g).in || !w.people.get(o).in) return -3;
        for (int k = 0; k <= 20; k++) {
            World v = w.twin();
            if (k > 0 && !lend(v.people.get(g), v.people.get(o), k)) continue;
            if (!v.on(1).people.get(g).in) return k;
        }
        return -4;
    }
    int waits(int n) {
        if (!in(n, 0, 60)) return -1;
        int most = w.on(n).relief, who = -4;
        for (int g = 0; g < w.people.size(); g++) {
            if (!w.people.get(g).in) continue;
            World v = w.twin();
            v.people.get(g).came += 5;
            int r = v.on(n).relief;
            if (r > most) { most = r; who = g; }
        }
        return who;
    }

    private int bestGone;
    private int[] bestPartners;
    int pairs(int g) {
        if (g != -1 && !known(g)) return -1;
        bestGone = -1;
        int[] partners = new int[w.people.size()];
        java.util.Arrays.fill(partners, -1);
        match(w.twin(), partners, 0);
        return g == -1 ? bestGone : bestPartners[g] == g ? -4 : bestPartners[g];
    }
    /** All ways in the order told: by guests the least partner, alone last; partners[g] is g for one alone. */
    private void match(World v, int[] partners, int g) {
        if (g == partners.length) {
            int gone = Integer.bitCount(w.bits()) - Integer.bitCount(v.on(1).bits());
            if (gone > bestGone) { bestGone = gone; bestPartners = partners.clone(); }
            return;
        }
        if (!w.people.get(g).in || partners[g] >= 0) {
            boolean out = partners[g] < 0;
            if (out) partners[g] = g;
            match(v, partners, g + 1);
            if (out) partners[g] = -1;
            return;
        }
        for (int o = g + 1; o < partners.length; o++) {
            if (!w.people.get(o).in || partners[o] >= 0) continue;
            partners[g] = o;
            partners[o] = g;
            World one = v.twin();
            if (lend(one.people.get(g), one.people.get(o), 5)) match(one, partners, g + 1);
            World other = v.twin();
            if (lend(other.people.get(o), other.people.get(g), 5)) match(other, partners, g + 1);
            partners[g] = -1;
            partners[o] = -1;
        }
        partners[g] = g;
        match(v, partners, g + 1);
        partners[g] = -1;
    }
    int ledger() {
        int s = 0;
        for (Person p : w.people) if (p.in) s += p.entered - p.weight;
        return s;
    }
    int tears(int what) {
        int n = w.people.size(), dry = 0, same = 0, all = 0;
        for (int a = 0; a < n; a++) {
            Person p = w.people.get(a);
            if (!p.in) continue;
            all += p.secrets;
            if (p.secrets == 0) dry |= 1 << a;
            for (int b = 0; b < a; b++) if (w.people.get(b).in && w.people.get(b).weight == p.weight) same++;
        }
        int[] answers = {dry, same, w.bits() - w.on(1).bits(), all};
        return in(what, 0, 3) ? answers[what] : -1;
    }

    boolean skipped(int d, int i) {
        int[] least = {-128, -32768, Integer.MIN_VALUE};
        return shelf[d][i + 1] == least[shelf[d][0] - 100];
    }
    int whatIs(int d, int g, int what) {
        if (!in(d, 0, 7) || !known(g) || !in(what, 0, 1)) return -1;
        if (rowRefusal(d) != 0) return rowRefusal(d);
        int bits = 0;
        for (int k = 0; k < (what == 0 ? 8 : 10); k++) {
            World v = w.twin();
            if (what == 0) v.people.get(g).kind = k; else v.people.get(g).figure = k;
            boolean so = true;
            for (int i = 0; i + 1 < shelf[d].length; i++, v.oneDay()) {
                if (!skipped(d, i) && shelf[d][i + 1] != v.people.get(g).weight) so = false;
            }
            if (so) bits |= 1 << k;
        }
        return bits;
    }
    int cameWith(int d, int g, int what) {
        if (!in(d, 0, 7) || !known(g) || !in(what, 0, 2)) return -1;
        if (rowRefusal(d) != 0) return rowRefusal(d);
        int n = 0, least = -4, most = -4;
        for (int e = 0; e <= 120; e++) {
            World v = w.twin();
            v.people.get(g).entered = e;
            boolean so = true;
            for (int i = 0; so && i + 1 < shelf[d].length; i++, v.oneDay()) {
                if (!skipped(d, i) && shelf[d][i + 1] != (v.people.get(g).in ? 1 : 0)) so = false;
            }
            if (so) { n++; most = e; if (least < 0) least = e; }
        }
        return what == 0 ? n : what == 1 ? least : most;
    }
    int worth(int g, int fast, int n) {
        World v = w.twin();
        v.day++;
        for (Person p : v.people) if (p.in) {
            int food = p == v.people.get(g) && fast == 1 ? 0 : eats(p, v.board);
            p.weight = Math.max(0, Math.min(99, p.weight + food) - dances(p, v.dance));
        }
        v.leave();
        Person p = v.on(n - 1).people.get(g);
        return (p.in ? p.weight / 20 : 6) - fast;
    }
    int two(int a, int b, int n) {
        if (!two(a, b) || !in(n, 1, 30)) return -1;
        if (!w.people.get(a).in || !w.people.get(b).in) return -3;
        for (int x = 0; x < 2; x++) for (int y = 0; y < 2; y++) {
            if (worth(a, x, n) >= worth(a, 1 - x, n) && worth(b, y, n) >= worth(b, 1 - y, n)) return 10 * x + y;
        }
        return -4;
    }
    BigInteger ways(World v, int g, int n, int t) {
        if (n == 0) return v.people.get(g).in ? BigInteger.ZERO : BigInteger.ONE;
        World plain = v.on(1);
        World feast = v.twin();
        feast.board = Math.min(9, v.board + 3);
        feast.oneDay();
        feast.board = v.board;
        return ways(plain, g, n - 1, t).multiply(BigInteger.valueOf(t - 1)).add(ways(feast, g, n - 1, t));
    }
    static long part(BigInteger above, BigInteger below, int part) {
        BigInteger gcd = above.gcd(below);
        return (part == 0 ? above : below).divide(gcd).longValueExact();
    }
    long feasts(int g, int n, int t, int part) {
        if (!known(g) || !in(n, 0, 7) || !in(t, 2, 20) || !in(part, 0, 1)) return 1000000001L;
        return part(ways(w, g, n, t), BigInteger.valueOf(t).pow(n), part);
    }
    long mean(int part) {
        if (!in(part, 0, 1)) return 1000000001L;
        int n = 0, sum = 0;
        for (Person p : w.people) if (!p.in) { n++; sum += p.entered - p.weight; }
        return n == 0 ? part : part(BigInteger.valueOf(sum), BigInteger.valueOf(n), part);
    }
    int forged(int d) {
        if (!in(d, 0, 7)) return -1;
        if (rowRefusal(d) != 0) return rowRefusal(d);
        for (int i = 0; i + 1 < shelf[d].length; i++) {
            if (i >= w.people.size() || w.people.get(i).entered != shelf[d][i + 1]) return i;
        }
        return -4;
    }
    int judge(int d) {
        if (!in(d, 0, 7)) return -1;
        if (rowRefusal(d) != 0) return rowRefusal(d);
        for (int i = 0; i + 1 < shelf[d].length; i++) {
            if (!skipped(d, i) && w.on(i).weightIn() != shelf[d][i + 1]) return i;
        }
        return -4;
    }
    int seasons(int n, int z, int what) {
        if (!in(n, 1, 20) || !in(what, 0, 1)) return -1;
        BigInteger seed = BigInteger.valueOf(z);
        int more = 0, in = 0;
        for (int s = 0; s < n; s++) {
            World v = w.twin();
            for (Person p : v.people) if (p.in) {
                seed = seed.multiply(BigInteger.valueOf(1103515245)).add(BigInteger.valueOf(12345));
                seed = BigInteger.valueOf(seed.intValue());
                p.weight = (seed.intValue() & Integer.MAX_VALUE) / 65536 % 100;
            }
            v = v.on(9);
            more += v.relief - w.relief;
            in += Integer.bitCount(v.bits());
        }
        return what == 0 ? more : in;
    }
    int image() {
        kept = w.twin();
        return w.day;
    }
    int restore() {
        if (kept == null) return -3;
        w = kept.twin();
        return w.day;
    }
    int count(int what) {
        int[] all = {w.people.size(), w.day, w.relief, w.board, w.dance, w.bits(), w.weightIn()};
        return in(what, 0, 6) ? all[what] : -1;
    }
    int keep(int d, int what, int k, int figure) {
        if (!in(d, 0, 7) || !in(what, 0, 1)) return -1;
        if (what == 1 && !(in(k, 0, 7) && in(figure, 0, 9))) return -1;
        shelf[d] = what == 0 ? null : new int[] {k, figure};
        return 0;
    }
    int row(int d, int sort, int n) {
        if (!in(d, 0, 7) || !in(sort, 0, 2) || n > 100) return -1;
        if (n < 0) return -14;
        shelf[d] = new int[n + 1];
        shelf[d][0] = 100 + sort;
        return 0;
    }
    int put(int d, int i, int v) {
        if (!in(d, 0, 7)) return -1;
        if (rowRefusal(d) != 0) return rowRefusal(d);
        if (!in(i, 0, shelf[d].length - 2)) return -13;
        shelf[d][i + 1] = shelf[d][0] == 100 ? (byte) v : shelf[d][0] == 101 ? (short) v : v;
        return 0;
    }
    /** The exceptions are told as -1000000 and -2000000 here, numbers that no test puts in. */
    long element(int d, int i) {
        if (!in(d, 0, 7)) return -1000000;
        return isRow(d) && in(i, 0, shelf[d].length - 2) ? shelf[d][i + 1] : -2000000;
    }
    int copy(int d, int i, int e, int j, int n) {
        if (!in(d, 0, 7) || !in(e, 0, 7)) return -1;
        if (shelf[d] == null || shelf[e] == null) return -11;
        if (!isRow(d) || !isRow(e) || shelf[d][0] != shelf[e][0]) return -12;
        if (n < 0 || i < 0 || j < 0 || (long) i + n >= shelf[d].length || (long) j + n >= shelf[e].length) return -13;
        int[] from = shelf[d].clone();
        for (int k = 0; k < n; k++) shelf[e][j + k + 1] = from[i + k + 1];
        return n;
    }
    int cost(int d) {
        if (!in(d, 0, 7)) return -1;
        return kindRefusal(d) != 0 ? kindRefusal(d) : price(shelf[d][0], shelf[d][1]);
    }
    int toss(int d) {
        if (!in(d, 0, 7)) return -1;
        if (kindRefusal(d) != 0) return kindRefusal(d);
        int k = shelf[d][0], f = shelf[d][1];
        if (k == 2 || k == 6 || f == 0) return -15;
        return k == 4 ? 200 + price(k, f) : k == 3 || k == 5 ? 100 + f : f;
    }
}
