/** Promises 10 to 13: days on in mind, who leaves when, the order by weight. */
public final class DaysOnTest {
    private static final Check check = new Check();

    public static void main(String[] args) {
        weightThen();
        then();
        leaves();
        order();
        check.end();
    }

    private static void weightThen() {
        GuestWeighsLess x = Check.told("b21;g0050;g1550;");
        check.due("now", x.weightThen(0, 0), 50);
        check.due("60 on: 99 held, then 1 danced off", x.weightThen(0, 60), 98);
        check.due("9 on", x.weightThen(0, 9), 59);
        check.due("the aunt leaves with 50", x.weightThen(1, 60), 50);
        check.due("61", x.weightThen(0, 61), -1);
        check.due("-1 days", x.weightThen(0, -1), -1);
        check.due("no such one", x.weightThen(2, 0), -1);
        check.due("no such one", x.weightThen(-1, 0), -1);
        check.due("only in mind", x.count(1), 0);
        check.due("only in mind", x.count(5), 3);
    }

    private static void then() {
        GuestWeighsLess x = Check.told("b23;g0050;g4550;g2340;g5010;");
        int[] in = {15, 14, 14, 10, 10};
        int[] relief = {0, 1, 1, 4, 4};
        int[] all = {150, 103, 106, 72, 76};
        for (int n = 0; n < in.length; n++) {
            check.due("who is in", x.then(n, 0), in[n]);
            check.due("relief", x.then(n, 1), relief[n]);
            check.due("weight of all", x.then(n, 2), all[n]);
        }
        check.due("61", x.then(61, 0), -1);
        check.due("-1", x.then(-1, 0), -1);
        check.due("what 3", x.then(1, 3), -1);
        check.due("what -1", x.then(1, -1), -1);
    }

    private static void leaves() {
        GuestWeighsLess x = Check.told("b23;g0050;g4550;g2340;g5010;");
        check.due("first", x.leaves(-1), 0);
        check.due("0", x.leaves(0), 1);
        check.due("1: the bishop is too heavy behind 9 days", x.leaves(1), -4);
        x.weighs(1, 41);
        check.due("1: a bishop stays 9 days", x.leaves(1), 9);
        x.weighs(1, 42);
        check.due("1: 60 are not less than 60", x.leaves(1), -4);
        check.due("2: a child stays 3", x.leaves(2), 3);
        check.due("3: a fugitive never", x.leaves(3), -4);
        check.due("4", x.leaves(4), -1);
        check.due("-2", x.leaves(-2), -1);
        x.days(1);
        check.due("has left", x.leaves(0), 0);
        check.due("first of those in", x.leaves(-1), 2);
        GuestWeighsLess y = Check.told("g3050;g3050;");
        check.due("of several the least", y.leaves(-1), 0);
        y.table(9, 0);
        check.due("nobody", y.leaves(-1), -4);
        GuestWeighsLess z = Check.told("b12;g0039;");
        z.weighs(0, 98);
        check.due("60 days", z.leaves(0), 60);
        check.due("first behind 60", z.leaves(-1), 0);
        GuestWeighsLess later = Check.told("b12;g0038;");
        later.weighs(0, 98);
        check.due("61 are too many", later.leaves(0), -4);
        check.due("nobody within 60", later.leaves(-1), -4);
        check.due("nobody there", new GuestWeighsLess().leaves(-1), -4);
        check.due("no such one", new GuestWeighsLess().leaves(0), -1);
    }

    private static void order() {
        GuestWeighsLess x = Check.told("b00;g4050;g4020;g0010;g4050;g4020;g4007;");
        x.weighs(2, 9);
        x.days(1);
        int[] by = {5, 1, 4, 0, 3, -4};
        for (int i = 0; i < by.length; i++) {
            check.due("order " + i, x.order(i), by[i]);
        }
        check.due("heaviest", x.order(-1), 0);
        check.due("-2", x.order(-2), -1);
        check.due("far", x.order(Integer.MAX_VALUE), -4);
        check.due("far below", x.order(Integer.MIN_VALUE), -1);
        check.due("nobody", new GuestWeighsLess().order(-1), -4);
        check.due("nobody", new GuestWeighsLess().order(0), -4);
        GuestWeighsLess light = Check.told("g4000;");
        check.due("one of no weight", light.order(-1), 0);
    }
}
