/** Promises 33 to 39: shelves, rows, copies, cost, failures. */
public final class ShelvesTest {
    private static final Check check = new Check();

    public static void main(String[] args) {
        keep();
        row();
        put();
        element();
        copy();
        cost();
        toss();
        check.end();
    }

    private static void keep() {
        GuestWeighsLess x = new GuestWeighsLess();
        check.due("a kind", x.keep(0, 1, 1, 9), 0);
        check.due("its cost", x.cost(0), 11);
        check.due("k 8", x.keep(0, 1, 8, 0), -1);
        check.due("k -1", x.keep(0, 1, -1, 0), -1);
        check.due("figure 10", x.keep(0, 1, 0, 10), -1);
        check.due("figure -1", x.keep(0, 1, 0, -1), -1);
        check.due("what 2", x.keep(0, 2, 0, 0), -1);
        check.due("what -1", x.keep(0, -1, 0, 0), -1);
        check.due("shelf 8", x.keep(8, 0, 0, 0), -1);
        check.due("shelf -1", x.keep(-1, 1, 0, 0), -1);
        check.due("nothing changed", x.cost(0), 11);
        check.due("nothing, the others do not matter", x.keep(0, 0, 99, -99), 0);
        check.due("it is gone", x.cost(0), -11);
        x.row(7, 0, 1);
        check.due("in place of a row", x.keep(7, 1, 0, 0), 0);
        check.due("a kind", x.cost(7), 2);
        check.due("no row", x.put(7, 0, 1), -12);
        x.row(7, 0, 1);
        x.keep(7, 0, 0, 0);
        check.due("a row is gone", x.put(7, 0, 1), -11);
    }

    private static void row() {
        GuestWeighsLess x = new GuestWeighsLess();
        check.due("shelf 8", x.row(8, 0, 1), -1);
        check.due("shelf -1", x.row(-1, 0, -1), -1);
        check.due("sort 3", x.row(0, 3, -1), -1);
        check.due("sort -1", x.row(0, -1, 1), -1);
        check.due("101", x.row(0, 0, 101), -1);
        check.due("-1", x.row(0, 0, -1), -14);
        check.due("nothing there yet", x.put(0, 0, 0), -11);
        check.due("100", x.row(0, 2, 100), 0);
        check.due("0 at first", x.element(0, 99), 0);
        x.put(0, 99, 5);
        check.due("a refused one", x.row(0, 2, -5), -14);
        check.due("changes nothing", x.element(0, 99), 5);
        check.due("a new one", x.row(0, 2, 100), 0);
        check.due("is 0 again", x.element(0, 99), 0);
        check.due("0 elements", x.row(0, 1, 0), 0);
        check.due("no place", x.put(0, 0, 1), -13);
        x.keep(1, 1, 0, 5);
        x.row(1, 0, 1);
        check.due("the kind is gone", x.cost(1), -12);
    }

    private static void put() {
        GuestWeighsLess x = new GuestWeighsLess();
        int[] numbers = {0, 127, 128, -129, 255, 32768, -32769, 70000, Integer.MAX_VALUE, Integer.MIN_VALUE};
        for (int sort = 0; sort < 3; sort++) {
            x.row(sort, sort, numbers.length);
            for (int i = 0; i < numbers.length; i++) {
                long want = sort == 0 ? (byte) numbers[i] : sort == 1 ? (short) numbers[i] : numbers[i];
                check.due("put", x.put(sort, i, numbers[i]), 0);
                check.due("lowest bits of " + numbers[i], x.element(sort, i), want);
            }
            check.due("a place too far", x.put(sort, numbers.length, 1), -13);
            check.due("place -1", x.put(sort, -1, 1), -13);
        }
        x.keep(3, 1, 0, 0);
        check.due("shelf 8", x.put(8, 0, 0), -1);
        check.due("shelf -1", x.put(-1, 0, 0), -1);
        check.due("nothing", x.put(4, 0, 0), -11);
        check.due("a kind", x.put(3, 0, 0), -12);
    }

    private static void element() {
        GuestWeighsLess x = new GuestWeighsLess();
        Check.put(x, 0, 0, 7, 8);
        x.keep(1, 1, 0, 0);
        check.due("the second", x.element(0, 1), 8);
        check.dueElementThrows(x, 8, 0, "IllegalArgumentException");
        check.dueElementThrows(x, -1, 0, "IllegalArgumentException");
        check.dueElementThrows(x, 1, 0, "IllegalStateException");
        check.dueElementThrows(x, 2, 0, "IllegalStateException");
        check.dueElementThrows(x, 0, 2, "IllegalStateException");
        check.dueElementThrows(x, 0, -1, "IllegalStateException");
        check.dueElementThrows(x, 0, 1, "8");
    }

    private static void copy() {
        GuestWeighsLess x = new GuestWeighsLess();
        Check.put(x, 0, 1, 1, 2, 3, 4, 5);
        Check.put(x, 1, 1, 9, 9, 9);
        check.due("two", x.copy(0, 3, 1, 1, 2), 2);
        row(x, 1, 9, 4, 5);
        check.due("within one, to the right", x.copy(0, 0, 0, 1, 4), 4);
        row(x, 0, 1, 1, 2, 3, 4);
        check.due("within one, to the left", x.copy(0, 2, 0, 0, 3), 3);
        row(x, 0, 2, 3, 4, 3, 4);
        check.due("none, at the ends", x.copy(0, 5, 1, 3, 0), 0);
        check.due("all", x.copy(1, 0, 0, 2, 3), 3);
        row(x, 0, 2, 3, 9, 4, 5);
        check.due("none, past the end", x.copy(0, 6, 1, 0, 0), -13);
        check.due("none, past the other's end", x.copy(0, 0, 1, 4, 0), -13);
        check.due("too many", x.copy(0, 3, 1, 0, 3), -13);
        check.due("too many there", x.copy(0, 0, 1, 1, 3), -13);
        check.due("n below 0", x.copy(0, 0, 1, 0, -1), -13);
        check.due("i below 0", x.copy(0, -1, 1, 0, 1), -13);
        check.due("j below 0", x.copy(0, 0, 1, -1, 1), -13);
        check.due("far", x.copy(0, Integer.MAX_VALUE, 1, 0, Integer.MAX_VALUE), -13);
        check.due("far", x.copy(0, 1, 1, 0, Integer.MAX_VALUE), -13);
        row(x, 0, 2, 3, 9, 4, 5);
        row(x, 1, 9, 4, 5);
        x.row(2, 0, 5);
        x.keep(3, 1, 0, 0);
        check.due("of another sort", x.copy(0, 0, 2, 0, 1), -12);
        check.due("a kind", x.copy(0, 0, 3, 0, 1), -12);
        check.due("a kind", x.copy(3, 0, 0, 0, 1), -12);
        check.due("two kinds", x.copy(3, 0, 3, 0, 0), -12);
        check.due("nothing", x.copy(4, 0, 0, 0, 1), -11);
        check.due("nothing goes ahead of a kind", x.copy(3, 0, 4, 0, 1), -11);
        check.due("shelf 8", x.copy(4, 0, 8, 0, 1), -1);
        check.due("shelf -1", x.copy(-1, 0, 4, 0, 1), -1);
    }

    private static void row(GuestWeighsLess x, int d, int... want) {
        for (int i = 0; i < want.length; i++) {
            check.due("element " + i, x.element(d, i), want[i]);
        }
    }

    private static void cost() {
        int[] five = {2, 7, 1, 5, 14, 0, 0, 6};
        int[] none = {2, 2, 1, 5, 4, 0, 0, 1};
        GuestWeighsLess x = new GuestWeighsLess();
        for (int k = 0; k < 8; k++) {
            x.keep(0, 1, k, 5);
            check.due("cost of kind " + k, x.cost(0), five[k]);
            x.keep(0, 1, k, 0);
            check.due("cost of kind " + k + ", figure 0", x.cost(0), none[k]);
        }
        x.row(0, 0, 3);
        check.due("a row", x.cost(0), -12);
        check.due("nothing", x.cost(1), -11);
        check.due("shelf 8", x.cost(8), -1);
        check.due("shelf -1", x.cost(-1), -1);
    }

    private static void toss() {
        int[] five = {5, 5, -15, 105, 214, 105, -15, 5};
        GuestWeighsLess x = new GuestWeighsLess();
        for (int k = 0; k < 8; k++) {
            x.keep(0, 1, k, 5);
            check.due("toss of kind " + k, x.toss(0), five[k]);
            x.keep(0, 1, k, 0);
            check.due("toss of kind " + k + ", figure 0", x.toss(0), -15);
        }
        x.row(0, 0, 3);
        check.due("a row", x.toss(0), -12);
        check.due("nothing", x.toss(1), -11);
        check.due("shelf 8", x.toss(8), -1);
        check.due("shelf -1", x.toss(-1), -1);
    }
}
