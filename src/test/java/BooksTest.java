/** Promises 27 to 32: the forged book, told weights, seasons by seeds, the image, what is told. */
public final class BooksTest {
    private static final Check check = new Check();

    public static void main(String[] args) {
        forged();
        judge();
        seasons();
        image();
        count();
        check.end();
    }

    private static void forged() {
        GuestWeighsLess x = Check.told("b03;g0050;g4999;g1540;");
        Check.put(x, 0, 0, 50, 117, 45);
        check.due("so", x.forged(0), -4);
        Check.put(x, 0, 0, 50, 117);
        check.due("fewer are so", x.forged(0), -4);
        Check.put(x, 0, 0, 50, 116, 44);
        check.due("the second", x.forged(0), 1);
        Check.put(x, 0, 2, 50, 117, 45, 0);
        check.due("no such guest", x.forged(0), 3);
        Check.put(x, 0, 0, -128, 117);
        check.due("nothing is skipped here", x.forged(0), 0);
        x.row(0, 1, 0);
        check.due("no elements", x.forged(0), -4);
        x.days(1);
        Check.put(x, 0, 1, 50);
        check.due("one who left, too", x.forged(0), -4);
        x.weighs(1, 50);
        Check.put(x, 0, 1, 50, 50);
        check.due("not what he weighs", x.forged(0), 1);
        refusals(x);
    }

    private static void refusals(GuestWeighsLess x) {
        x.keep(2, 1, 0, 0);
        check.due("forged 8", x.forged(8), -1);
        check.due("forged -1", x.forged(-1), -1);
        check.due("forged, nothing", x.forged(1), -11);
        check.due("forged, a kind", x.forged(2), -12);
        check.due("judge 8", x.judge(8), -1);
        check.due("judge -1", x.judge(-1), -1);
        check.due("judge, nothing", x.judge(1), -11);
        check.due("judge, a kind", x.judge(2), -12);
    }

    private static void judge() {
        GuestWeighsLess x = Check.told("b23;g0050;g4550;g2340;g5010;");
        Check.put(x, 0, 1, 150, 103, 106, 72, 76);
        check.due("so", x.judge(0), -4);
        x.put(0, 3, 73);
        check.due("the fourth", x.judge(0), 3);
        x.put(0, 3, -32768);
        check.due("skipped", x.judge(0), -4);
        x.put(0, 0, 151);
        check.due("the first", x.judge(0), 0);
        x.row(0, 0, 0);
        check.due("no elements", x.judge(0), -4);
        Check.put(x, 0, 0, -128, 103, 106);
        check.due("bytes", x.judge(0), -4);
        Check.put(x, 0, 2, -128);
        check.due("-128 is no skipped int", x.judge(0), 0);
        check.due("only in mind", x.count(1), 0);
        GuestWeighsLess y = new GuestWeighsLess();
        y.row(0, 0, 100);
        check.due("nobody weighs 0", y.judge(0), -4);
        y.put(0, 99, 1);
        check.due("the hundredth", y.judge(0), 99);
    }

    private static void seasons() {
        GuestWeighsLess x = Check.told("b00;g0050;g4090;");
        // by hand from seed 1: draws below 100 are 38, 58, 13, 15, 51, 27
        // the guest's weight holds, the bishop has 9 more behind 9 days
        check.due("first season", x.seasons(1, 1, 0), (50 - 38) + (90 - 67));
        check.due("nobody in", x.seasons(1, 1, 1), 0);
        check.due("the seed goes on", x.seasons(2, 1, 0), 12 + 23 + (50 - 13) + (90 - 24));
        check.due("nothing changes", x.guest(0, 2), 50);
        check.due("0 seasons", x.seasons(0, 1, 0), -1);
        check.due("21 seasons", x.seasons(21, 1, 0), -1);
        check.due("what 2", x.seasons(1, 1, 2), -1);
        check.due("what -1", x.seasons(1, 1, -1), -1);
        GuestWeighsLess stay = Check.told("b90;g0000;g0000;g5000;");
        check.due("who is in, of 7 seasons", stay.seasons(7, 5, 1), 21);
        check.due("no relief", stay.seasons(7, 5, 0), 0);
        check.due("20 seasons", stay.seasons(20, 5, 1), 60);
        check.due("38 less 9 is not less than 29", Check.told("b23;g0029;").seasons(1, 1, 1), 1);
        check.due("it is less than 30", Check.told("b23;g0030;").seasons(1, 1, 1), 0);
        GuestWeighsLess left = Check.told("b03;g0050;d01;b90;g0000;");
        // only the one who is in is drawn for
        check.due("relief that is there does not count", left.seasons(3, -9, 0), 0);
        check.due("one in, each time", left.seasons(3, -9, 1), 3);
    }

    private static void image() {
        GuestWeighsLess x = Check.told("b45;g4750;s06;d03;");
        check.due("none yet", x.restore(), -3);
        check.due("taken", x.image(), 3);
        x.keep(1, 1, 4, 2);
        Check.read(x, "b10;g0050;t0;l1005;d40;");
        check.due("changed: 50 less 5 lent, 1 eaten, went", x.count(2), 4);
        check.due("restored", x.restore(), 3);
        int[] due = {1, 3, 0, 4, 5, 1, 59};
        for (int i = 0; i < due.length; i++) {
            check.due("as it was: count " + i, x.count(i), due[i]);
        }
        int[] guest = {4, 7, 59, 64, 6, 0, 1, 0, 0};
        for (int i = 0; i < guest.length; i++) {
            check.due("as it was: guest " + i, x.guest(0, i), guest[i]);
        }
        check.due("shelves stay", x.cost(1), 8);
        check.due("the text, too", x.element(7, 0), 'b');
        x.days(5);
        check.due("restored again", x.restore(), 3);
        x.days(2);
        check.due("taken anew", x.image(), 5);
        x.days(2);
        check.due("the newest", x.restore(), 5);
    }

    private static void count() {
        GuestWeighsLess x = Check.told("b03;g0050;g4060;g0040;d01;b78;g5210;");
        int[] due = {4, 1, 6, 7, 8, 10, 71};
        for (int i = 0; i < due.length; i++) {
            check.due("count " + i, x.count(i), due[i]);
        }
        check.due("7", x.count(7), -1);
        check.due("-1", x.count(-1), -1);
    }
}
