/** Which refusal is told first, what is held where, who has LEFT; a refused call, and one that only asks, changes nothing. */
public final class RefusalsTest {
    private static final Check check = new Check();
    private static final Edge few = new Edge(check, Edge::few);
    private static final Edge full = new Edge(check, Edge::full);

    public static void main(String[] args) {
        heldOnShelves();
        comesFirst();
        guestsFirst();
        leftOnes();
        daysFirst();
        rowsFirst();
        shelvesFirst();
        copiesFirst();
        elementsFirst();
        faultsChangeNothing();
        askingChangesNothing();
        askingInAFullHouse();
        check.end();
    }

    private static void heldOnShelves() {
        few.still("house of nothing", x -> x.house(0), -11);
        few.still("house of a kind", x -> x.house(1), -12);
        few.still("house of shorts", x -> x.house(3), -12);
        few.still("house of ints", x -> x.house(4), -12);
        few.still("house of bytes that are no text", x -> x.house(2), -1000);
        few.still("comes, nothing", x -> x.comes(0, 5), -11);
        few.still("comes, a row", x -> x.comes(2, 5), -12);
        few.still("whatIs of nothing", x -> x.whatIs(0, 1, 0), -11);
        few.still("whatIs of a kind", x -> x.whatIs(1, 1, 0), -12);
        few.still("cameWith of nothing", x -> x.cameWith(0, 1, 0), -11);
        few.still("cameWith of a kind", x -> x.cameWith(1, 1, 0), -12);
        few.still("forged of nothing", x -> x.forged(0), -11);
        few.still("forged of a kind", x -> x.forged(1), -12);
        few.still("judge of nothing", x -> x.judge(0), -11);
        few.still("judge of a kind", x -> x.judge(1), -12);
        few.still("put, nothing", x -> x.put(0, 0, 1), -11);
        few.still("put, a kind", x -> x.put(1, 0, 1), -12);
        few.still("cost of nothing", x -> x.cost(0), -11);
        few.still("cost of a row", x -> x.cost(4), -12);
        few.still("toss of nothing", x -> x.toss(0), -11);
        few.still("toss of a row", x -> x.toss(4), -12);
    }

    private static void comesFirst() {
        few.still("-1 ahead of -11", x -> x.comes(0, 100), -1);
        few.still("-1 ahead of -12", x -> x.comes(2, -1), -1);
        full.still("-1 ahead of -2", x -> x.comes(1, 100), -1);
        full.still("no shelf, ahead of -2", x -> x.comes(8, 5), -1);
        full.still("-11 ahead of -2", x -> x.comes(0, 5), -11);
        full.still("-12 ahead of -2", x -> x.comes(2, 5), -12);
        full.still("-2", x -> x.comes(1, 5), -2);
    }

    /** Guest 0 has LEFT: whatever else is wrong with the numbers goes ahead of it. */
    private static void guestsFirst() {
        few.still("lends too much", x -> x.lends(0, 1, 21), -1);
        few.still("lends too little", x -> x.lends(0, 1, 0), -1);
        few.still("lends to himself", x -> x.lends(0, 0, 5), -1);
        few.still("lends to nobody", x -> x.lends(0, 3, 5), -1);
        few.still("nobody lends", x -> x.lends(3, 0, 5), -1);
        few.still("weighs too much", x -> x.weighs(0, 100), -1);
        few.still("weighs below 0", x -> x.weighs(0, -1), -1);
        few.still("loan to himself", x -> x.loan(0, 0), -1);
        few.still("loan to nobody", x -> x.loan(0, 3), -1);
        few.still("two of one", x -> x.two(0, 0, 1), -1);
        few.still("two with nobody", x -> x.two(0, 3, 1), -1);
        few.still("two, 31 days", x -> x.two(0, 1, 31), -1);
        few.still("two, 0 days", x -> x.two(1, 0, 0), -1);
    }

    private static void leftOnes() {
        few.still("tells", x -> x.tells(0), -3);
        few.still("lends", x -> x.lends(0, 1, 1), -3);
        few.still("is lent", x -> x.lends(1, 0, 1), -3);
        few.still("weighs", x -> x.weighs(0, 50), -3);
        few.still("tell", x -> x.tell(0), -3);
        few.still("loan of him", x -> x.loan(0, 1), -3);
        few.still("loan to him", x -> x.loan(1, 0), -3);
        few.still("two, he first", x -> x.two(0, 1, 1), -3);
        few.still("two, he second", x -> x.two(1, 0, 1), -3);
        few.still("leaves", x -> x.leaves(0), 0);
        few.still("pairs", x -> x.pairs(0), -4);
        few.still("weightThen", x -> x.weightThen(0, 60), 45);
        few.still("feasts, above", x -> x.feasts(0, 7, 20, 0), 1);
        few.still("feasts, below", x -> x.feasts(0, 7, 20, 1), 1);
        few.still("mean, above", x -> x.mean(0), 5);
        few.still("mean, below", x -> x.mean(1), 1);
    }

    private static void daysFirst() {
        Edge late = new Edge(check, RefusalsTest::late);
        late.still("-1 ahead of -3", x -> x.days(61), -1);
        late.still("0 days", x -> x.days(0), -1);
        late.still("DAY 1000", x -> x.days(40), -3);
        late.still("far above", x -> x.days(60), -3);
        check.due("DAY 999", late().days(39), 0);
    }

    private static GuestWeighsLess late() {
        GuestWeighsLess x = Check.told("b90;g0050;");
        for (int i = 0; i < 16; i++) {
            x.days(60);
        }
        return x;
    }

    private static void rowsFirst() {
        for (int d = 0; d < 2; d++) {
            int shelf = d; // 0 holds nothing, 1 a kind
            few.still("whatIs, nobody", x -> x.whatIs(shelf, 3, 0), -1);
            few.still("whatIs, what 2", x -> x.whatIs(shelf, 1, 2), -1);
            few.still("cameWith, nobody", x -> x.cameWith(shelf, 3, 0), -1);
            few.still("cameWith, what 3", x -> x.cameWith(shelf, 1, 3), -1);
        }
    }

    private static void shelvesFirst() {
        few.still("no sort, ahead of -14", x -> x.row(2, 3, -1), -1);
        few.still("no shelf, ahead of -14", x -> x.row(8, 0, -1), -1);
        few.still("put: no shelf and no place", x -> x.put(8, 9, 0), -1);
        few.still("put: nothing and no place", x -> x.put(0, 9, 0), -11);
        few.still("put: a kind and no place", x -> x.put(1, 9, 0), -12);
        few.still("put: no place", x -> x.put(2, 3, 0), -13);
        few.still("keep: no shelf, nothing kept", x -> x.keep(8, 0, 0, 0), -1);
        few.still("keep: nothing is right", x -> x.keep(8, 2, 8, 10), -1);
    }

    private static void copiesFirst() {
        few.still("no shelf, nothing there", x -> x.copy(8, 0, 0, 0, -1), -1);
        few.still("nothing there, no shelf", x -> x.copy(0, 0, 8, 0, -1), -1);
        few.still("nothing, a kind", x -> x.copy(0, 9, 1, 9, -1), -11);
        few.still("a kind, nothing", x -> x.copy(1, 9, 0, 9, -1), -11);
        few.still("a kind ahead of no place", x -> x.copy(1, 9, 2, 9, -1), -12);
        few.still("a kind to copy to, ahead of no place", x -> x.copy(2, 9, 1, 9, -1), -12);
        few.still("two sorts ahead of no place", x -> x.copy(2, 9, 3, 9, -1), -12);
        few.still("bytes and ints", x -> x.copy(2, 0, 4, 0, 1), -12);
        few.still("ints and shorts", x -> x.copy(4, 0, 3, 0, 1), -12);
        few.still("none of two sorts", x -> x.copy(2, 0, 3, 0, 0), -12);
        few.still("n below 0", x -> x.copy(2, 0, 5, 0, -1), -13);
        few.still("none, far away", x -> x.copy(2, Edge.MOST, 5, 0, 0), -13);
        few.still("too far together", x -> x.copy(2, Edge.MOST, 5, 0, Edge.MOST), -13);
        few.still("none from the end to the end", x -> x.copy(2, 3, 5, 2, 0), 0);
    }

    private static void elementsFirst() {
        GuestWeighsLess x = Edge.few();
        String before = Edge.look(x);
        check.dueElementThrows(x, 8, 9, "IllegalArgumentException");
        check.dueElementThrows(x, -1, -1, "IllegalArgumentException");
        check.dueElementThrows(x, 0, 0, "IllegalStateException");
        check.dueElementThrows(x, 1, 0, "IllegalStateException");
        check.dueElementThrows(x, 5, 2, "IllegalStateException");
        check.dueElementThrows(x, 5, 1, "8");
        check.dueTrue("element changes nothing", Edge.look(x).equals(before));
    }

    private static void faultsChangeNothing() {
        String[] texts = {"b99;t1;d05;g0000;x", "b99;t1;d05;g0000", "b99;s19;d05;g0000;t9;", "b00;d60;l1000;"};
        int[] faults = {-1017, -1016, -2018, -2008};
        for (int i = 0; i < texts.length; i++) {
            GuestWeighsLess x = Edge.few();
            for (int place = 0; place < texts[i].length(); place++) {
                if (place == 0) {
                    x.row(7, 0, texts[i].length());
                }
                x.put(7, place, texts[i].charAt(place));
            }
            String before = Edge.look(x);
            check.due("fault of " + texts[i], x.house(7), faults[i]);
            check.dueTrue("nothing of it comes: " + texts[i], Edge.look(x).equals(before));
        }
    }

    /** Each asking leaves what there is and the image; the answers are looked at elsewhere. */
    private static void askingChangesNothing() {
        Edge.Call[] askings = askings();
        for (int i = 0; i < askings.length; i++) {
            Edge.Call asking = askings[i];
            few.still("asking " + i, asking, asking.of(Edge.few()));
        }
    }

    private static void askingInAFullHouse() {
        Edge.Call[] askings = askings();
        for (int i = 0; i < askings.length; i++) {
            Edge.Call asking = askings[i];
            full.still("asking of seven " + i, asking, asking.of(Edge.full()));
        }
    }

    private static Edge.Call[] askings() {
        return new Edge.Call[] {
            x -> x.weightThen(2, 60), x -> x.then(60, 0), x -> x.then(60, 1), x -> x.then(60, 2), x -> x.leaves(2),
            x -> x.leaves(-1), x -> x.order(-1), x -> x.order(0), x -> x.feed(60, 0), x -> x.feed(60, 1),
            x -> x.empty(60), x -> x.tell(2), x -> x.loan(2, 1), x -> x.waits(60), x -> x.pairs(-1), x -> x.pairs(2),
            x -> x.ledger(), x -> x.tears(0), x -> x.tears(1), x -> x.tears(2), x -> x.tears(3),
            x -> x.whatIs(2, 2, 0), x -> x.whatIs(2, 2, 1), x -> x.cameWith(2, 2, 0), x -> x.two(2, 1, 30),
            x -> x.feasts(2, 7, 20, 0), x -> x.mean(0), x -> x.forged(2), x -> x.judge(3), x -> x.seasons(20, 7, 0),
            x -> x.count(6), x -> x.guest(2, 8), x -> x.cost(1), x -> x.toss(1),
        };
    }
}
