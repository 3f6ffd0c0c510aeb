/** Promises 22 to 26: what kind one is, what he came with, two who eat or fast, feasts by odds, the mean. */
public final class KindsTest {
    private static final Check check = new Check();
    private static final long REFUSED = 1000000001L;

    public static void main(String[] args) {
        whatIs();
        whatIsOfOneWhoLeft();
        cameWith();
        rowsThatAreNone();
        two();
        feasts();
        mean();
        check.end();
    }

    private static void whatIs() {
        // board 5, dance 4, figure 7, 50: behind a day 51, 51, 50, 51, 53, 57, 51, 47 by kinds
        GuestWeighsLess x = Check.told("b54;g0750;");
        Check.put(x, 1, 0, 50, 51);
        check.due("kinds", x.whatIs(1, 0, 0), 1 + 2 + 8 + 64);
        check.due("a guest's figure does not matter", x.whatIs(1, 0, 1), 1023);
        Check.put(x, 1, 0, 50, -128, 54);
        check.due("skipped", x.whatIs(1, 0, 0), 0);
        Check.put(x, 1, 0, -128, -128);
        check.due("nothing told", x.whatIs(1, 0, 0), 255);
        x.row(1, 2, 0);
        check.due("no elements", x.whatIs(1, 0, 0), 255);
        check.due("no elements", x.whatIs(1, 0, 1), 1023);
        Check.put(x, 1, 1, 50, -128);
        check.due("-128 is not skipped in shorts", x.whatIs(1, 0, 0), 0);
        Check.put(x, 1, 1, 50, -32768);
        check.due("-32768 is", x.whatIs(1, 0, 0), 255);
        Check.put(x, 1, 2, -2147483648, 57);
        check.due("ints", x.whatIs(1, 0, 0), 32);
        check.due("a guest is none by it", x.whatIs(1, 0, 1), 0);
        GuestWeighsLess child = Check.told("b54;g2750;");
        Check.put(child, 1, 0, 50, 51);
        check.due("a child dances off 1 more by three", child.whatIs(1, 0, 1), 8 + 16 + 32);
        check.due("his own kind is not told so", child.whatIs(1, 0, 0), 1 + 2 + 8 + 64);
        check.due("the child stays what he is", child.guest(0, 0), 2);
    }

    private static void whatIsOfOneWhoLeft() {
        // entered stays 50 whatever he is: the guest goes with 49, the child must stay and holds it
        GuestWeighsLess x = Check.told("b11;g0450;t0;");
        Check.put(x, 1, 0, 49, 49, 49);
        check.due("kinds that leave or hold their weight", x.whatIs(1, 0, 0), 1 + 4 + 8);
        x.days(1);
        check.due("left: all kinds", x.whatIs(1, 0, 0), 255);
        check.due("left: all figures", x.whatIs(1, 0, 1), 1023);
        Check.put(x, 1, 0, 50);
        check.due("left: none", x.whatIs(1, 0, 0), 0);
        GuestWeighsLess far = Check.told("b10;g0009;");
        x = far;
        x.row(1, 0, 100);
        for (int i = 0; i < 100; i++) {
            x.put(1, i, i + 9 > 99 ? 99 : i + 9);
        }
        check.due("a hundred told", x.whatIs(1, 0, 1), 1023);
        x.put(1, 99, 98);
        check.due("the hundredth is looked at", x.whatIs(1, 0, 1), 0);
    }

    private static void cameWith() {
        GuestWeighsLess x = Check.told("b02;g0050;");
        Check.put(x, 1, 0, 1, 1, 0);
        // 48 behind a day, 46 behind two: more than 46, not more than 48
        check.due("how many", x.cameWith(1, 0, 0), 2);
        check.due("least", x.cameWith(1, 0, 1), 47);
        check.due("greatest", x.cameWith(1, 0, 2), 48);
        Check.put(x, 1, 0, 1, -128, 0);
        check.due("skipped: how many", x.cameWith(1, 0, 0), 74);
        check.due("skipped: least", x.cameWith(1, 0, 1), 47);
        check.due("skipped: greatest", x.cameWith(1, 0, 2), 120);
        Check.put(x, 1, 0, 1, 0, 1);
        check.due("nobody comes back", x.cameWith(1, 0, 0), 0);
        check.due("no least", x.cameWith(1, 0, 1), -4);
        check.due("no greatest", x.cameWith(1, 0, 2), -4);
        Check.put(x, 1, 0, 0);
        check.due("he is in now", x.cameWith(1, 0, 0), 0);
        Check.put(x, 1, 0, 1, 2);
        check.due("2 is neither", x.cameWith(1, 0, 0), 0);
        Check.put(x, 1, 2, 1, -1);
        check.due("-1 is neither", x.cameWith(1, 0, 0), 0);
        x.row(1, 0, 0);
        check.due("no elements", x.cameWith(1, 0, 0), 121);
        check.due("no elements: least", x.cameWith(1, 0, 1), 0);
        check.due("no elements: greatest", x.cameWith(1, 0, 2), 120);
        x.table(0, 1);
        Check.put(x, 1, 0, 1, 1, 0);
        check.due("just one", x.cameWith(1, 0, 0), 1);
        check.due("just one: the least", x.cameWith(1, 0, 1), 49);
        check.due("just one: the greatest", x.cameWith(1, 0, 2), 49);
        x.days(1);
        Check.put(x, 1, 0, 0, 0, 0);
        check.due("left", x.cameWith(1, 0, 0), 121);
        Check.put(x, 1, 0, -128, 1);
        check.due("left, told in", x.cameWith(1, 0, 0), 0);
        GuestWeighsLess bishop = Check.told("b23;g4050;");
        Check.put(bishop, 1, 0, 1, 1, 1, 1, 1, 1, 1, 1, 1, 0);
        check.due("9 days whatever he came with: more than 68", bishop.cameWith(1, 0, 1), 69);
        bishop.put(1, 8, 0);
        check.due("not behind 8", bishop.cameWith(1, 0, 0), 0);
        check.due("entered stays", bishop.guest(0, 3), 50);
    }

    private static void rowsThatAreNone() {
        GuestWeighsLess x = Check.told("g0050;");
        x.keep(2, 1, 0, 0);
        check.due("shelf 8", x.whatIs(8, 0, 0), -1);
        check.due("shelf -1", x.whatIs(-1, 0, 0), -1);
        check.due("no such one", x.whatIs(1, 1, 0), -1);
        check.due("what 2", x.whatIs(1, 0, 2), -1);
        check.due("what -1", x.whatIs(1, 0, -1), -1);
        check.due("nothing there", x.whatIs(1, 0, 0), -11);
        check.due("a kind there", x.whatIs(2, 0, 0), -12);
        check.due("shelf 8", x.cameWith(8, 0, 0), -1);
        check.due("shelf -1", x.cameWith(-1, 0, 0), -1);
        check.due("no such one", x.cameWith(1, -1, 0), -1);
        check.due("what 3", x.cameWith(1, 0, 3), -1);
        check.due("what -1", x.cameWith(1, 0, -1), -1);
        check.due("nothing there", x.cameWith(1, 0, 0), -11);
        check.due("a kind there", x.cameWith(2, 0, 0), -12);
    }

    private static void two() {
        GuestWeighsLess x = Check.told("b42;g0050;g0050;");
        // who fasts goes at once, who eats never
        check.due("both fast", x.two(0, 1, 1), 11);
        x.weighs(0, 60);
        check.due("the one is too heavy and eats", x.two(0, 1, 1), 1);
        check.due("the other way round", x.two(1, 0, 1), 10);
        x.weighs(1, 40);
        check.due("the other goes anyway", x.two(0, 1, 1), 0);
        check.due("30 days", x.two(0, 1, 30), 0);
        check.due("31 days", x.two(0, 1, 31), -1);
        check.due("0 days", x.two(0, 1, 0), -1);
        check.due("one twice", x.two(0, 0, 1), -1);
        check.due("no such one", x.two(0, 2, 1), -1);
        check.due("no such one", x.two(-1, 0, 1), -1);
        x.days(1);
        check.due("one left", x.two(0, 1, 1), -3);
        check.due("one left", x.two(1, 0, 1), -3);
        // only the next day is fasted: behind three days of 2 more than danced off the fast is eaten up
        GuestWeighsLess y = Check.told("b42;g2349;g0050;");
        y.weighs(0, 48);
        // a child of figure 3: 5 eaten, 3 danced off; 48 - 3 + 2 + 2 is 49, no less than he entered with
        check.due("fasting is no help", y.two(0, 1, 3), 1);
        y.weighs(0, 47);
        check.due("fasting is", y.two(0, 1, 3), 11);
        check.due("a child must stay 3 days, so 2 are no use", y.two(0, 1, 2), 1);
    }

    private static void feasts() {
        GuestWeighsLess x = Check.told("b23;g0050;");
        check.due("one day: 2 in 3", x.feasts(0, 1, 3, 0), 2);
        check.due("one day: 2 in 3", x.feasts(0, 1, 3, 1), 3);
        // behind 7 days he has left but by feasts of 2 more each time they are too many
        check.due("two days, 1 in 2: 1 - 1/4 - 1/4", x.feasts(0, 2, 2, 0), 1);
        check.due("two days", x.feasts(0, 2, 2, 1), 2);
        check.due("no days", x.feasts(0, 0, 2, 0), 0);
        check.due("no days", x.feasts(0, 0, 2, 1), 1);
        GuestWeighsLess y = Check.told("b08;g4050;");
        check.due("never", y.feasts(0, 7, 20, 0), 0);
        check.due("never", y.feasts(0, 7, 20, 1), 1);
        GuestWeighsLess z = Check.told("b23;g2750;");
        // a child of figure 7 eats 3 and dances off 5: in 7 days 14 less, 3 more by each feast, and stays 7
        check.due("four feasts of 7 days at most", z.feasts(0, 7, 2, 0), 99);
        check.due("four feasts of 7 days at most", z.feasts(0, 7, 2, 1), 128);
        // 20^7 less 21 * 19^2 less 7 * 19 less 1, by 20^7; both by 5
        check.due("1 in 20: above", z.feasts(0, 7, 20, 0), 1279992285L / 5);
        check.due("1 in 20: below", z.feasts(0, 7, 20, 1), 1280000000L / 5);
        GuestWeighsLess nine = Check.told("b89;g0050;");
        nine.weighs(0, 49);
        check.due("9 at most: he goes by any", nine.feasts(0, 1, 2, 0), 1);
        check.due("9 at most: he goes by any", nine.feasts(0, 1, 2, 1), 1);
        nine.days(1);
        check.due("left", nine.feasts(0, 0, 2, 0), 1);
        check.due("the table stays", nine.count(3), 8);
        check.due("no such one", x.feasts(1, 1, 2, 0), REFUSED);
        check.due("no such one", x.feasts(-1, 1, 2, 0), REFUSED);
        check.due("8 days", x.feasts(0, 8, 2, 0), REFUSED);
        check.due("-1 days", x.feasts(0, -1, 2, 0), REFUSED);
        check.due("1 in 1", x.feasts(0, 1, 1, 0), REFUSED);
        check.due("1 in 21", x.feasts(0, 1, 21, 0), REFUSED);
        check.due("part 2", x.feasts(0, 1, 2, 2), REFUSED);
        check.due("part -1", x.feasts(0, 1, 2, -1), REFUSED);
    }

    private static void mean() {
        GuestWeighsLess x = Check.told("b03;g0050;g7960;g3160;g4550;");
        check.due("of none", x.mean(0), 0);
        check.due("of none", x.mean(1), 1);
        x.days(1);
        // 3, 9 + 4 and 3 less
        check.due("19 by 3", x.mean(0), 19);
        check.due("19 by 3", x.mean(1), 3);
        x.weighs(3, 40);
        x.days(8);
        // the bishop entered with 60 and has 40 + 8 * (2 - 1): 19 and 12 are 31 of four
        check.due("31 by 4", x.mean(0), 31);
        check.due("31 by 4", x.mean(1), 4);
        GuestWeighsLess y = Check.told("b03;g0050;g0050;d01;");
        check.due("least terms", y.mean(0), 3);
        check.due("least terms", y.mean(1), 1);
        GuestWeighsLess one = Check.told("b03;g0050;g4050;d01;");
        check.due("of one", one.mean(0), 3);
        check.due("of one", one.mean(1), 1);
        check.due("part 2", y.mean(2), REFUSED);
        check.due("part -1", y.mean(-1), REFUSED);
    }
}
