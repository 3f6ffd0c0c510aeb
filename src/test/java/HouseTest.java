/** Promises 1 to 9: a new object, the text of a house, guests, telling, lending, the table, days. */
public final class HouseTest {
    private static final Check check = new Check();

    public static void main(String[] args) {
        newObject();
        textComes();
        faultsOfFirstKind();
        faultsOfSecondKind();
        faultsChangeNothing();
        guests();
        kindsByDays();
        comes();
        tells();
        lends();
        table();
        weighs();
        days();
        check.end();
    }

    private static void newObject() {
        GuestWeighsLess x = new GuestWeighsLess();
        int[] first = {0, 0, 0, 2, 3, 0, 0};
        for (int i = 0; i < first.length; i++) {
            check.due("new: count " + i, x.count(i), first[i]);
        }
        check.due("new: guest 0", x.guest(0, 0), -1);
        check.due("new: no image", x.restore(), -3);
        for (int d = 0; d < 8; d++) {
            check.due("new: shelf " + d, x.cost(d), -11);
        }
    }

    private static void textComes() {
        GuestWeighsLess x = new GuestWeighsLess();
        check.due("house", Check.read(x, "g4950;b07;s05;t0;g0030;l1012;d03;"), 7);
        check.due("guests", x.count(0), 2);
        check.due("board", x.count(3), 0);
        check.due("dance", x.count(4), 7);
        check.due("day", x.count(1), 3);
        check.due("entered", x.guest(0, 3), 68);
        check.due("secrets", x.guest(0, 4), 4);
        // 50, a secret 5 less, 12 lent to him, three days of 2 eaten and 1 danced off
        check.due("weight", x.guest(0, 2), 60);
        check.due("the other left with 11", x.guest(1, 2), 11);
        check.due("relief", x.count(2), 19);
        check.due("the text stays", x.element(7, 0), 'g');
        check.due("least and most pounds and days", Check.read(Check.told("g4050;g4050;"), "l0101;l1020;d60;d01;"), 4);
        check.due("a second text goes on", Check.read(x, "g0010;"), 1);
        check.due("came on this day", x.guest(2, 5), 3);
        check.due("secrets of one who left", Check.read(x, "s18;"), 1);
        check.due("he has so many", x.guest(1, 4), 8);
    }

    private static void faultsOfFirstKind() {
        String[] texts = {"", "x", "g", "g0", "g00000", "g000;", "b12", "b123", "bx", "t;", "t12;", "l01;", "s1;", "d1;",
            "b12;;", "b12;b", ";", "b12; ", "G0000;", "d123;", "g99-1;", "t9;q"};
        int[] places = {0, 0, 1, 2, 5, 4, 3, 3, 1, 1, 2, 3, 2, 2, 4, 5, 0, 4, 0, 3, 3, 3};
        for (int i = 0; i < texts.length; i++) {
            GuestWeighsLess x = new GuestWeighsLess();
            check.due("house " + texts[i], Check.read(x, texts[i]), -1000 - places[i]);
        }
        GuestWeighsLess x = new GuestWeighsLess();
        Check.put(x, 1, 0, 'b', '1', '2', ';', -7);
        check.due("a byte below 0", x.house(1), -1004);
    }

    private static void faultsOfSecondKind() {
        String[] texts = {"g8000;", "g9000;", "t0;", "g0050;t1;", "g0050;s00;t0;", "g0050;l0005;", "g0050;l0105;",
            "g0050;g0050;l0100;", "g0050;g0050;l0121;", "g0004;g0050;l0105;", "g0050;g0099;l0101;", "s00;", "d00;",
            "d61;", "b99;g0050;b03;d01;t0;", "g0050;g0050;b03;d01;l0101;", "b11;d99;g0000;"};
        int[] places = {0, 0, 0, 6, 10, 6, 6, 12, 12, 12, 12, 0, 0, 0, 18, 20, 4};
        for (int i = 0; i < texts.length; i++) {
            GuestWeighsLess x = new GuestWeighsLess();
            check.due("house " + texts[i], Check.read(x, texts[i]), -2000 - places[i]);
        }
        String seven = "g0099;g0099;g0099;g0099;g0099;g0099;g0099;";
        check.due("no room", Check.read(new GuestWeighsLess(), seven + "g0099;"), -2042);
        check.due("room for seven", Check.read(new GuestWeighsLess(), seven), 7);
        check.due("the first kind goes ahead", Check.read(new GuestWeighsLess(), "t0;x"), -1003);
        GuestWeighsLess late = new GuestWeighsLess();
        for (int i = 0; i < 16; i++) {
            late.days(60);
        }
        check.due("day above 999", Check.read(late, "b11;d40;"), -2004);
        check.due("day 999", Check.read(late, "b11;d39;"), 2);
        check.due("the day", late.count(1), 999);
    }

    private static void faultsChangeNothing() {
        GuestWeighsLess x = Check.told("g0050;");
        check.due("fault", Check.read(x, "b99;s09;t0;g0060;d01;t5;"), -2021);
        int[] asBefore = {1, 0, 0, 2, 3, 1, 50};
        for (int i = 0; i < asBefore.length; i++) {
            check.due("nothing came: count " + i, x.count(i), asBefore[i]);
        }
        check.due("nothing came: secrets", x.guest(0, 4), 3);
        check.due("house(-1)", x.house(-1), -1);
        check.due("house(8)", x.house(8), -1);
        check.due("nothing there", x.house(2), -11);
        x.keep(2, 1, 0, 0);
        check.due("a kind there", x.house(2), -12);
        Check.put(x, 2, 1, 'b', '1', '2', ';');
        check.due("shorts", x.house(2), -12);
        Check.put(x, 2, 2, 'b', '1', '2', ';');
        check.due("ints", x.house(2), -12);
        Check.put(x, 2, 0, 'b', '1', '2', ';');
        check.due("bytes", x.house(2), 1);
    }

    private static void guests() {
        GuestWeighsLess x = Check.told("d05;g7950;s06;");
        int[] due = {7, 9, 50, 59, 6, 5, 1, 1, 0};
        for (int i = 0; i < due.length; i++) {
            check.due("guest what " + i, x.guest(0, i), due[i]);
        }
        check.due("what 9", x.guest(0, 9), -1);
        check.due("what -1", x.guest(0, -1), -1);
        check.due("guest -1", x.guest(-1, 0), -1);
        check.due("guest 1", x.guest(1, 0), -1);
        x.weighs(0, 59);
        check.due("as heavy: may not go", x.guest(0, 7), 0);
        check.due("as heavy: lacks 1", x.guest(0, 8), 1);
        x.weighs(0, 70);
        check.due("lacks", x.guest(0, 8), 12);
        x.weighs(0, 58);
        check.due("may go", x.guest(0, 7), 1);
        x.days(1);
        check.due("left", x.guest(0, 6), 0);
        check.due("left: may not go", x.guest(0, 7), 0);
        check.due("left: lacks none", x.guest(0, 8), 0);
        GuestWeighsLess y = Check.told("g2450;");
        y.weighs(0, 40);
        check.due("a child must stay", y.guest(0, 7), 0);
        y.table(2, 2);
        y.days(3);
        check.due("3 days are too few", y.guest(0, 6), 1);
        y.days(1);
        check.due("4 are enough", y.guest(0, 6), 0);
    }

    /** Entered, weight behind a day (board 5, dance 4), what a secret takes off: figure 7, weight 50, by kinds. */
    private static void kindsByDays() {
        int[] entered = {50, 57, 50, 53, 64, 54, 50, 57};
        int[] weight = {51, 51, 50, 51, 53, 57, 51, 47};
        int[] secret = {1, 3, 0, 1, 4, 3, 1, 3};
        int[] stays = {0, 0, 7, 0, 9, 0, 7, 0};
        for (int k = 0; k < 8; k++) {
            GuestWeighsLess x = Check.told("b54;g" + k + "750;");
            check.due("entered, kind " + k, x.guest(0, 3), entered[k]);
            check.due("weight, kind " + k, x.weightThen(0, 1), weight[k]);
            check.due("a secret, kind " + k, 50 - x.tells(0), secret[k]);
            x.table(0, 0);
            x.weighs(0, 1);
            check.due("stays, kind " + k, x.leaves(0), Math.max(1, stays[k]));
        }
        check.due("a poor one eats 0 at least", Check.told("b00;g6050;").weightThen(0, 5), 50);
        check.due("a poor one eats 1 less than a guest", Check.told("b20;g6050;").weightThen(0, 1), 51);
        check.due("a fugitive dances 0 at least", Check.told("b00;g5050;").weightThen(0, 1), 50);
        check.due("99 is held ahead of the dance", Check.told("b97;g0099;").weightThen(0, 1), 92);
        check.due("0 is held", Check.told("b19;g0005;").weightThen(0, 1), 0);
        check.due("a bishop eats 2 more than an aunt", Check.told("b93;g4050;").weightThen(0, 1), 55);
        check.due("a poor one's dance is cut", Check.told("b12;g6350;").weightThen(0, 1), 49);
    }

    private static void comes() {
        GuestWeighsLess x = new GuestWeighsLess();
        check.due("weight -1", x.comes(0, -1), -1);
        check.due("weight 100, nothing there", x.comes(0, 100), -1);
        check.due("shelf 8", x.comes(8, 5), -1);
        check.due("shelf -1", x.comes(-1, 5), -1);
        check.due("nothing there", x.comes(0, 5), -11);
        x.row(0, 0, 1);
        check.due("a row there", x.comes(0, 5), -12);
        x.keep(0, 1, 4, 3);
        for (int g = 0; g < 7; g++) {
            check.due("comes", x.comes(0, 99 * (g % 2)), g);
        }
        check.due("no room", x.comes(0, 5), -2);
        check.due("a number out of range goes ahead of no room", x.comes(0, 100), -1);
        check.due("what is taken stays", x.cost(0), 10);
        check.due("entered", x.guest(1, 3), 105);
        check.due("in", x.count(5), 127);
        x.row(0, 0, 1);
        check.due("-12 goes ahead of no room", x.comes(0, 5), -12);
    }

    private static void tells() {
        GuestWeighsLess x = Check.told("g5001;g1150;b03;");
        check.due("0 at least", x.tells(0), 0);
        check.due("again", x.tells(0), 0);
        check.due("again", x.tells(0), 0);
        check.due("none is there more", x.tells(0), -3);
        check.due("an aunt of figure 1", x.tells(1), 50);
        check.due("secrets", x.guest(1, 4), 2);
        check.due("-1", x.tells(-1), -1);
        check.due("2", x.tells(2), -1);
        x.days(1);
        check.due("left", x.tells(1), -3);
        check.due("secrets stay", x.guest(1, 4), 2);
    }

    private static void lends() {
        GuestWeighsLess x = Check.told("g0025;g0090;g0001;b00;");
        check.due("no such one", x.lends(0, 3, 1), -1);
        check.due("no such one", x.lends(-1, 0, 1), -1);
        check.due("one twice", x.lends(1, 1, 1), -1);
        check.due("0 pounds", x.lends(0, 1, 0), -1);
        check.due("21 pounds", x.lends(0, 2, 21), -1);
        check.due("99 would be passed", x.lends(0, 1, 10), -3);
        check.due("99", x.lends(0, 1, 9), 16);
        check.due("the other's", x.guest(1, 2), 99);
        check.due("he has not so many", x.lends(0, 2, 17), -3);
        check.due("all", x.lends(0, 2, 16), 0);
        check.due("the other's", x.guest(2, 2), 17);
        check.due("20 pounds", x.lends(1, 0, 20), 79);
        check.due("what they entered with stays", x.guest(0, 3), 25);
        x.days(1);
        check.due("in", x.count(5), 4);
        check.due("one who left lends", x.lends(0, 2, 1), -3);
        check.due("lends to one who left", x.lends(2, 0, 1), -3);
    }

    private static void table() {
        GuestWeighsLess x = new GuestWeighsLess();
        check.due("first", x.table(9, 0), 23);
        check.due("then", x.table(0, 9), 90);
        check.due("board 10", x.table(10, 1), -1);
        check.due("board -1", x.table(-1, 1), -1);
        check.due("dance 10", x.table(1, 10), -1);
        check.due("dance -1", x.table(1, -1), -1);
        check.due("board", x.count(3), 0);
        check.due("dance", x.count(4), 9);
    }

    private static void weighs() {
        GuestWeighsLess x = Check.told("g0050;");
        check.due("99", x.weighs(0, 99), 50);
        check.due("0", x.weighs(0, 0), 99);
        check.due("now", x.guest(0, 2), 0);
        check.due("entered stays", x.guest(0, 3), 50);
        check.due("100", x.weighs(0, 100), -1);
        check.due("-1", x.weighs(0, -1), -1);
        check.due("no such one", x.weighs(1, 1), -1);
        x.days(1);
        check.due("left", x.weighs(0, 5), -3);
        check.due("left, out of range", x.weighs(0, 100), -1);
        check.due("as he left", x.guest(0, 2), 0);
    }

    private static void days() {
        GuestWeighsLess x = Check.told("g0050;g0060;g4070;b21;");
        check.due("0 days", x.days(0), -1);
        check.due("61 days", x.days(61), -1);
        check.due("-1 days", x.days(-1), -1);
        check.due("nobody goes", x.days(2), 0);
        check.due("weight", x.guest(0, 2), 52);
        x.weighs(1, 40);
        check.due("one goes", x.days(1), 19);
        check.due("60 days", x.days(60), 19);
        check.due("the one who left weighs as he did", x.guest(1, 2), 41);
        check.due("day", x.count(1), 63);
        for (int i = 0; i < 15; i++) {
            x.days(60);
        }
        check.due("37 are too many", x.days(37), -3);
        check.due("out of range goes ahead", x.days(61), -1);
        check.due("none went", x.count(1), 963);
        check.due("36 go", x.days(36), 19);
        check.due("the last day", x.count(1), 999);
        check.due("no more", x.days(1), -3);
        check.due("in mind it goes on", x.weightThen(0, 60), 98);
    }
}
