import java.util.Random;

/** Long runs of calls by seeds, each answer beside the one of the plain model. */
public final class ModelTest {
    private static final int RUNS = 400;
    /** A step makes up to 80 calls, and behind the 512th nothing is promised. */
    private static final int CALLS = 420;
    private final Random odds;
    private final Check check;
    private GuestWeighsLess x = new GuestWeighsLess();
    private Model m = new Model();
    private int calls = 0;

    private ModelTest(long seed, Check check) {
        odds = new Random(seed);
        this.check = check;
    }

    public static void main(String[] args) {
        Check check = new Check();
        for (int run = 0; run < RUNS; run++) {
            new ModelTest(run, check).run(run);
        }
        check.end();
    }

    private void run(int run) {
        while (calls < CALLS) {
            int what = odds.nextInt(100);
            if (what < 6) {
                tellText();
            } else if (what < 14) {
                tellWeights();
            } else if (what < 40) {
                change(run);
            } else if (what < 95) {
                ask(run);
            } else {
                useShelves(run);
            }
        }
    }

    private int below(int n) {
        return odds.nextInt(n);
    }

    /** Mostly within 0 .. n - 1, now and then beside it. */
    private int about(int n) {
        return below(12) > 0 ? below(n) : below(4) > 0 ? below(3) - 1 + (below(2) == 0 ? 0 : n - 1) : odds.nextInt();
    }

    private int g() {
        int n = m.w.people.size();
        return below(15) > 0 && n > 0 ? below(n) : below(10) - 2;
    }

    private void due(int run, String call, long got, long want) {
        calls++;
        check.due("run " + run + ", call " + calls + ": " + call, got, want);
    }

    private void put(int d, int sort, int... v) {
        due(-1, "row", x.row(d, sort, v.length), m.row(d, sort, v.length));
        for (int i = 0; i < v.length; i++) {
            due(-1, "put", x.put(d, i, v[i]), m.put(d, i, v[i]));
        }
    }

    private String digits(int n, int places) {
        String s = "00" + n;
        return s.substring(s.length() - places);
    }

    private String statement() {
        int n = Math.max(1, m.w.people.size() + 1);
        switch (below(9)) {
            case 0: return "b" + below(10) + below(10) + ";";
            case 1: return "t" + below(n) + ";";
            case 2: return "l" + below(n) + below(n) + digits(below(22), 2) + ";";
            case 3: return "s" + below(n) + below(10) + ";";
            case 4: return "d" + digits(below(9) > 0 ? below(5) + 1 : below(62), 2) + ";";
            default: return "g" + below(below(20) > 0 ? 8 : 10) + below(10) + digits(below(100), 2) + ";";
        }
    }

    private void tellText() {
        StringBuilder b = new StringBuilder();
        int n = below(5);
        for (int i = 0; i < n; i++) {
            b.append(statement());
        }
        if (b.length() > 0 && below(5) == 0) {
            b.setCharAt(below(b.length()), "gbtlsd;0159x".charAt(below(12)));
        }
        if (b.length() > 0 && below(9) == 0) {
            b.setLength(b.length() - 1);
        }
        int[] bytes = new int[b.length()];
        for (int i = 0; i < bytes.length; i++) {
            bytes[i] = b.charAt(i);
        }
        put(7, 0, bytes);
        due(-1, "house " + b, x.house(7), m.house(7));
    }

    /** Rows that are nearly so, that the askings about them have something to find. */
    private void tellWeights() {
        int sort = below(3);
        int n = m.w.people.size();
        int[] v = new int[below(12) > 0 ? below(7) : below(70)];
        int[] least = {-128, -32768, Integer.MIN_VALUE};
        int what = below(4);
        int one = n == 0 ? 0 : below(n);
        Model.World as = m.w.twin();
        if (n > 0 && below(2) == 0) {
            as.people.get(one).entered = below(121);
            as.people.get(one).kind = below(8);
        }
        for (int i = 0; i < v.length; i++, as.oneDay()) {
            if (n == 0) {
                v[i] = below(2);
            } else if (what == 0) {
                v[i] = as.people.get(one).weight;
            } else if (what == 1) {
                v[i] = as.people.get(one).in ? 1 : 0;
            } else if (what == 2) {
                v[i] = as.weightIn();
            } else {
                v[i] = i < n ? as.people.get(i).entered : below(121);
            }
            if (below(6) == 0) {
                v[i] = least[sort];
            } else if (below(25) == 0) {
                v[i] += below(3) - 1;
            }
        }
        int d = below(3);
        put(d, sort, v);
        for (int k = 0; k < 2; k++) {
            due(-1, "whatIs", x.whatIs(d, one, k), m.whatIs(d, one, k));
        }
        for (int k = 0; k < 3; k++) {
            due(-1, "cameWith", x.cameWith(d, one, k), m.cameWith(d, one, k));
        }
        due(-1, "forged", x.forged(d), m.forged(d));
        due(-1, "judge", x.judge(d), m.judge(d));
    }

    private void change(int run) {
        int a = g(), b = g(), n;
        switch (below(12)) {
            case 0: case 1:
                int k = about(8), f = about(10);
                n = about(100);
                due(run, "keep", x.keep(3, 1, k, f), m.keep(3, 1, k, f));
                due(run, "comes", x.comes(3, n), m.comes(3, n));
                break;
            case 2: due(run, "tells", x.tells(a), m.tells(a)); break;
            case 3: case 4: n = 1 + about(20); due(run, "lends", x.lends(a, b, n), m.lends(a, b, n)); break;
            case 5: n = about(10); int t = about(10); due(run, "table", x.table(n, t), m.table(n, t)); break;
            case 6: case 7: n = about(100); due(run, "weighs", x.weighs(a, n), m.weighs(a, n)); break;
            case 8: n = below(8) > 0 ? 1 + below(3) : about(61); due(run, "days", x.days(n), m.days(n)); break;
            case 9: if (below(3) == 0) due(run, "image", x.image(), m.image()); break;
            default: if (below(4) == 0) due(run, "restore", x.restore(), m.restore()); break;
        }
        for (int i = 0; i < 7; i++) {
            due(run, "count", x.count(i), m.count(i));
        }
    }

    private void ask(int run) {
        int a = g(), b = g(), n = about(61), what = about(3), d = about(8), t;
        switch (below(24)) {
            case 0: t = about(9); due(run, "guest", x.guest(a, t), m.guest(a, t)); break;
            case 1: due(run, "weightThen", x.weightThen(a, n), m.weightThen(a, n)); break;
            case 2: due(run, "then", x.then(n, what), m.then(n, what)); break;
            case 3: a = below(3) == 0 ? -1 : a; due(run, "leaves", x.leaves(a), m.leaves(a)); break;
            case 4: due(run, "order", x.order(a), m.order(a)); break;
            case 5: due(run, "order", x.order(-1), m.order(-1)); break;
            case 6: case 7: due(run, "feed", x.feed(n, what), m.feed(n, what)); break;
            case 8: due(run, "empty", x.empty(n), m.empty(n)); break;
            case 9: due(run, "tell", x.tell(a), m.tell(a)); break;
            case 10: due(run, "loan", x.loan(a, b), m.loan(a, b)); break;
            case 11: due(run, "waits", x.waits(n), m.waits(n)); break;
            case 12: due(run, "pairs", x.pairs(-1), m.pairs(-1)); break;
            case 13: due(run, "pairs", x.pairs(a), m.pairs(a)); break;
            case 14: due(run, "ledger", x.ledger(), m.ledger()); break;
            case 15: t = about(4); due(run, "tears", x.tears(t), m.tears(t)); break;
            case 16: due(run, "whatIs", x.whatIs(d, a, what), m.whatIs(d, a, what)); break;
            case 17: due(run, "cameWith", x.cameWith(d, a, what), m.cameWith(d, a, what)); break;
            case 18: n = 1 + about(30); due(run, "two", x.two(a, b, n), m.two(a, b, n)); break;
            case 19: n = about(8); t = 2 + about(19);
                due(run, "feasts", x.feasts(a, n, t, what), m.feasts(a, n, t, what)); break;
            case 20: due(run, "mean", x.mean(what), m.mean(what)); break;
            case 21: due(run, "forged", x.forged(d), m.forged(d)); break;
            case 22: due(run, "judge", x.judge(d), m.judge(d)); break;
            default: n = 1 + about(20); t = odds.nextInt();
                due(run, "seasons", x.seasons(n, t, what), m.seasons(n, t, what)); break;
        }
    }

    private long element(int d, int i) {
        try {
            return x.element(d, i);
        } catch (IllegalArgumentException e) {
            return -1000000;
        } catch (IllegalStateException e) {
            return -2000000;
        }
    }

    private void useShelves(int run) {
        int d = about(8), e = about(8), i = about(9), j = about(9), n = about(7);
        switch (below(8)) {
            case 0: due(run, "keep", x.keep(d, i, j, n), m.keep(d, i, j, n)); break;
            case 1: due(run, "row", x.row(d, e, n), m.row(d, e, n)); break;
            case 2: due(run, "put", x.put(d, i, 77777 * i), m.put(d, i, 77777 * i)); break;
            case 3: due(run, "element", element(d, i), m.element(d, i)); break;
            case 4: case 5: due(run, "copy", x.copy(d, i, e, j, n), m.copy(d, i, e, j, n)); break;
            case 6: due(run, "cost", x.cost(d), m.cost(d)); break;
            default: due(run, "toss", x.toss(d), m.toss(d)); break;
        }
        for (int place = 0; place < 4; place++) {
            due(run, "element", element(e, place), m.element(e, place));
        }
    }
}
