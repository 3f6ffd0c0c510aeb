/** Every number of every call: the last that is allowed and the first that is not, on both sides. */
public final class RangesTest {
    private static final Check check = new Check();
    private static final Edge few = new Edge(check, Edge::few);
    private static final Edge full = new Edge(check, Edge::full);

    public static void main(String[] args) {
        guestsOf(few, 2, 1);
        guestsOf(full, 6, 5);
        nobodyThere();
        whats();
        houseNumbers();
        askedNumbers();
        shelvesForKinds();
        shelvesForRows();
        shelfNumbers();
        check.end();
    }

    /** Every call that names a guest: 0 .. last, of whom other is one who is IN. */
    private static void guestsOf(Edge e, int last, int other) {
        e.numbers("guest(g, 0)", 0, last, -1, (x, g) -> x.guest(g, 0));
        e.numbers("tells(g)", 0, last, -1, (x, g) -> x.tells(g));
        e.numbers("lends(g, other, 1)", 0, last, -1, (x, g) -> x.lends(g, other, 1));
        e.numbers("lends(other, g, 1)", 0, last, -1, (x, g) -> x.lends(other, g, 1));
        e.numbers("weighs(g, 50)", 0, last, -1, (x, g) -> x.weighs(g, 50));
        e.numbers("weightThen(g, 1)", 0, last, -1, (x, g) -> x.weightThen(g, 1));
        e.numbers("leaves(g)", -1, last, -1, (x, g) -> x.leaves(g));
        e.numbers("tell(g)", 0, last, -1, (x, g) -> x.tell(g));
        e.numbers("loan(g, other)", 0, last, -1, (x, g) -> x.loan(g, other));
        e.numbers("loan(other, g)", 0, last, -1, (x, g) -> x.loan(other, g));
        e.numbers("pairs(g)", -1, last, -1, (x, g) -> x.pairs(g));
        e.numbers("whatIs(2, g, 0)", 0, last, -1, (x, g) -> x.whatIs(2, g, 0));
        e.numbers("cameWith(2, g, 0)", 0, last, -1, (x, g) -> x.cameWith(2, g, 0));
        e.numbers("two(g, other, 1)", 0, last, -1, (x, g) -> x.two(g, other, 1));
        e.numbers("two(other, g, 1)", 0, last, -1, (x, g) -> x.two(other, g, 1));
        e.numbers("feasts(g, 1, 2, 0)", 0, last, Edge.REFUSED, (x, g) -> x.feasts(g, 1, 2, 0));
        e.still("lends to himself", x -> x.lends(other, other, 1), -1);
        e.still("loan to himself", x -> x.loan(other, other), -1);
        e.still("two of one", x -> x.two(other, other, 1), -1);
    }

    private static void nobodyThere() {
        Edge nobody = new Edge(check, GuestWeighsLess::new);
        nobody.still("guest(0, 0)", x -> x.guest(0, 0), -1);
        nobody.still("tells(0)", x -> x.tells(0), -1);
        nobody.still("lends(0, 1, 1)", x -> x.lends(0, 1, 1), -1);
        nobody.still("weighs(0, 1)", x -> x.weighs(0, 1), -1);
        nobody.still("weightThen(0, 1)", x -> x.weightThen(0, 1), -1);
        nobody.still("leaves(0)", x -> x.leaves(0), -1);
        nobody.still("tell(0)", x -> x.tell(0), -1);
        nobody.still("loan(0, 1)", x -> x.loan(0, 1), -1);
        nobody.still("pairs(0)", x -> x.pairs(0), -1);
        nobody.still("two(0, 1, 1)", x -> x.two(0, 1, 1), -1);
        nobody.still("feasts(0, 1, 2, 0)", x -> x.feasts(0, 1, 2, 0), Edge.REFUSED);
        nobody.still("whatIs(0, 0, 0)", x -> x.whatIs(0, 0, 0), -1);
        nobody.still("cameWith(0, 0, 0)", x -> x.cameWith(0, 0, 0), -1);
    }

    private static void whats() {
        few.numbers("guest(1, what)", 0, 8, -1, (x, what) -> x.guest(1, what));
        few.numbers("then(1, what)", 0, 2, -1, (x, what) -> x.then(1, what));
        few.numbers("feed(1, what)", 0, 1, -1, (x, what) -> x.feed(1, what));
        few.numbers("tears(what)", 0, 3, -1, (x, what) -> x.tears(what));
        few.numbers("whatIs(2, 1, what)", 0, 1, -1, (x, what) -> x.whatIs(2, 1, what));
        few.numbers("cameWith(2, 1, what)", 0, 2, -1, (x, what) -> x.cameWith(2, 1, what));
        few.numbers("feasts(1, 1, 2, part)", 0, 1, Edge.REFUSED, (x, part) -> x.feasts(1, 1, 2, part));
        few.numbers("mean(part)", 0, 1, Edge.REFUSED, (x, part) -> x.mean(part));
        few.numbers("seasons(1, 1, what)", 0, 1, -1, (x, what) -> x.seasons(1, 1, what));
        few.numbers("count(what)", 0, 6, -1, (x, what) -> x.count(what));
        few.numbers("keep(0, what, 0, 0)", 0, 1, -1, (x, what) -> x.keep(0, what, 0, 0));
    }

    private static void houseNumbers() {
        few.numbers("comes(1, weight)", 0, 99, -1, (x, weight) -> x.comes(1, weight));
        few.numbers("lends(1, 2, w)", 1, 20, -1, (x, w) -> x.lends(1, 2, w));
        few.numbers("table(board, 1)", 0, 9, -1, (x, board) -> x.table(board, 1));
        few.numbers("table(1, dance)", 0, 9, -1, (x, dance) -> x.table(1, dance));
        few.numbers("weighs(1, w)", 0, 99, -1, (x, w) -> x.weighs(1, w));
        few.numbers("days(n)", 1, 60, -1, (x, n) -> x.days(n));
    }

    private static void askedNumbers() {
        few.numbers("weightThen(1, n)", 0, 60, -1, (x, n) -> x.weightThen(1, n));
        few.numbers("then(n, 0)", 0, 60, -1, (x, n) -> x.then(n, 0));
        few.numbers("feed(n, 0)", 0, 60, -1, (x, n) -> x.feed(n, 0));
        few.numbers("empty(n)", 0, 60, -1, (x, n) -> x.empty(n));
        few.numbers("waits(n)", 0, 60, -1, (x, n) -> x.waits(n));
        few.numbers("two(1, 2, n)", 1, 30, -1, (x, n) -> x.two(1, 2, n));
        few.numbers("feasts(1, n, 2, 0)", 0, 7, Edge.REFUSED, (x, n) -> x.feasts(1, n, 2, 0));
        few.numbers("feasts(1, 1, t, 0)", 2, 20, Edge.REFUSED, (x, t) -> x.feasts(1, 1, t, 0));
        few.numbers("seasons(n, 1, 0)", 1, 20, -1, (x, n) -> x.seasons(n, 1, 0));
        few.still("order(-2)", x -> x.order(-2), -1);
        few.still("order of the least int", x -> x.order(Edge.LEAST), -1);
        few.still("order of the greatest int", x -> x.order(Edge.MOST), -4);
    }

    private static void shelvesForKinds() {
        few.numbers("comes(d, 50)", 0, 7, -1, (x, d) -> x.comes(kindOn(x, d), 50));
        few.numbers("cost(d)", 0, 7, -1, (x, d) -> x.cost(kindOn(x, d)));
        few.numbers("toss(d)", 0, 7, -1, (x, d) -> x.toss(kindOn(x, d)));
        few.numbers("keep(d, 1, 0, 0)", 0, 7, -1, (x, d) -> x.keep(d, 1, 0, 0));
        few.numbers("keep(d, 0, 0, 0)", 0, 7, -1, (x, d) -> x.keep(d, 0, 0, 0));
    }

    private static int kindOn(GuestWeighsLess x, int d) {
        x.keep(d, 1, 1, 6);
        return d;
    }

    private static void shelvesForRows() {
        few.numbers("house(d)", 0, 7, -1, (x, d) -> x.house(textOn(x, d)));
        few.numbers("whatIs(d, 1, 0)", 0, 7, -1, (x, d) -> x.whatIs(textOn(x, d), 1, 0));
        few.numbers("cameWith(d, 1, 0)", 0, 7, -1, (x, d) -> x.cameWith(textOn(x, d), 1, 0));
        few.numbers("forged(d)", 0, 7, -1, (x, d) -> x.forged(textOn(x, d)));
        few.numbers("judge(d)", 0, 7, -1, (x, d) -> x.judge(textOn(x, d)));
        few.numbers("row(d, 0, 1)", 0, 7, -1, (x, d) -> x.row(d, 0, 1));
        few.numbers("put(d, 0, 1)", 0, 7, -1, (x, d) -> x.put(textOn(x, d), 0, 1));
        few.numbers("copy(d, 0, 2, 0, 1)", 0, 7, -1, (x, d) -> x.copy(textOn(x, d), 0, 2, 0, 1));
        few.numbers("copy(2, 0, e, 0, 1)", 0, 7, -1, (x, e) -> x.copy(2, 0, textOn(x, e), 0, 1));
        for (int d : new int[] {-1, 8, Edge.LEAST, Edge.MOST}) {
            check.dueElementThrows(Edge.few(), d, 0, "IllegalArgumentException");
        }
        for (int d : new int[] {0, 7}) {
            GuestWeighsLess x = Edge.few();
            check.dueElementThrows(x, textOn(x, d), 0, "98");
        }
    }

    private static int textOn(GuestWeighsLess x, int d) {
        x.row(d, 0, 4);
        for (int i = 0; i < 4; i++) {
            x.put(d, i, "b21;".charAt(i));
        }
        return d;
    }

    private static void shelfNumbers() {
        few.numbers("keep(0, 1, k, 0)", 0, 7, -1, (x, k) -> x.keep(0, 1, k, 0));
        few.numbers("keep(0, 1, 0, figure)", 0, 9, -1, (x, figure) -> x.keep(0, 1, 0, figure));
        few.numbers("row(2, sort, 1)", 0, 2, -1, (x, sort) -> x.row(2, sort, 1));
        few.numbers("put(2, i, 1)", 0, 2, -13, (x, i) -> x.put(2, i, 1));
        few.numbers("copy(2, i, 5, 0, 1)", 0, 2, -13, (x, i) -> x.copy(2, i, 5, 0, 1));
        few.numbers("copy(5, 0, 2, j, 1)", 0, 2, -13, (x, j) -> x.copy(5, 0, 2, j, 1));
        few.numbers("copy(2, 0, 2, 0, n)", 0, 3, -13, (x, n) -> x.copy(2, 0, 2, 0, n));
        few.numbers("copy(2, 1, 5, 0, n)", 0, 2, -13, (x, n) -> x.copy(2, 1, 5, 0, n));
        few.numbers("copy(2, 0, 5, 1, n)", 0, 1, -13, (x, n) -> x.copy(2, 0, 5, 1, n));
        few.still("row(2, 0, 101)", x -> x.row(2, 0, 101), -1);
        few.still("row(2, 0, the greatest int)", x -> x.row(2, 0, Edge.MOST), -1);
        few.still("row(2, 0, -1)", x -> x.row(2, 0, -1), -14);
        few.still("row(2, 0, the least int)", x -> x.row(2, 0, Edge.LEAST), -14);
        check.due("row of 0", Edge.few().row(2, 0, 0), 0);
        check.due("row of 100", Edge.few().row(2, 0, 100), 0);
        for (int i : new int[] {-1, 3, Edge.LEAST, Edge.MOST}) {
            check.dueElementThrows(Edge.few(), 2, i, "IllegalStateException");
        }
        check.dueElementThrows(Edge.few(), 2, 0, "1");
        check.dueElementThrows(Edge.few(), 2, 2, "0");
    }
}
