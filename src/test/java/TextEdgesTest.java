/** The text of a house: each form cut off and spoiled at every byte, each number's last allowed and first not. */
public final class TextEdgesTest {
    private static final Check check = new Check();
    private static final String[] FORMS = {"g0050;", "b12;", "t0;", "l0105;", "s03;", "d01;"};
    private static final String SEVEN = "g0050;g1050;g2050;g3050;g4050;g5050;g6050;";

    public static void main(String[] args) {
        cutOff();
        spoiled();
        spoiledBehindAnother();
        longest();
        mostStatements();
        lowestBits();
        newcomers();
        roomForSeven();
        tablesAndSecrets();
        tellings();
        lendings();
        days();
        daysUpTo999();
        oneBehindTheOther();
        check.end();
    }

    /** Two guests are there, so that each form can be done. */
    private static GuestWeighsLess two() {
        return Check.told("g0050;g0050;b22;");
    }

    private static void due(GuestWeighsLess x, String text, int want) {
        check.due("house " + text, Check.read(x, text), want);
    }

    private static void cutOff() {
        for (String form : FORMS) {
            due(two(), form, 1);
            for (int n = 0; n < form.length(); n++) {
                due(two(), form.substring(0, n), -1000 - n);
                due(two(), "b12;" + form.substring(0, n), n == 0 ? 1 : -1004 - n);
            }
        }
    }

    private static void spoiled() {
        for (String form : FORMS) {
            spoil(form, 0, "aABDGLSTch;09/: \u0000\u0080\u00ff");
            for (int place = 1; place < form.length() - 1; place++) {
                spoil(form, place, "/:;gx -\u0000\u0080\u00b0");
            }
            spoil(form, form.length() - 1, "0:<9gx \u0000\u0080\u00bb");
        }
    }

    private static void spoil(String form, int place, String by) {
        for (int i = 0; i < by.length(); i++) {
            String text = form.substring(0, place) + by.charAt(i) + form.substring(place + 1);
            due(two(), text, -1000 - place);
        }
    }

    private static void spoiledBehindAnother() {
        for (String form : FORMS) {
            due(two(), form + ";", -1000 - form.length());
            due(two(), form + " ", -1000 - form.length());
            due(two(), form + "0", -1000 - form.length());
            due(two(), "t9;" + form + "x", -1003 - form.length());
            due(two(), "t9;" + form.substring(0, form.length() - 1), -1002 - form.length());
        }
    }

    private static void longest() {
        StringBuilder text = new StringBuilder();
        for (int i = 0; i < 25; i++) {
            text.append("b12;");
        }
        due(two(), text.toString(), 25);
        due(two(), text.substring(0, 99), -1099);
        due(two(), text.substring(0, 99) + "x", -1099);
        due(two(), text.substring(0, 97), -1097);
        due(two(), text.substring(0, 96) + "t2;t", -1100);
        due(two(), text.substring(0, 96), 24);
        due(two(), text.substring(0, 92) + "12;t2;", -1092);
        due(two(), text.substring(0, 92) + "b12;" + "t2;", -2096);
    }

    /** The shortest statement is three bytes long: a hundred bytes hold 33 of it and a letter. */
    private static void mostStatements() {
        StringBuilder text = new StringBuilder();
        for (int i = 0; i < 33; i++) {
            text.append('t').append(i / 9).append(';');
        }
        GuestWeighsLess x = fourOfNineSecrets();
        due(x, text.toString(), 33);
        check.due("nine told", x.guest(0, 2), 41);
        check.due("six told", x.guest(3, 2), 44);
        check.due("three are left", x.guest(3, 4), 3);
        due(fourOfNineSecrets(), text.substring(0, 96) + "t2;", -2096);
        due(fourOfNineSecrets(), text.substring(0, 96) + "t;", -1097);
        due(fourOfNineSecrets(), text + "t", -1100);
        due(fourOfNineSecrets(), text + ";", -1099);
    }

    private static GuestWeighsLess fourOfNineSecrets() {
        return Check.told("g0050;g0050;g0050;g0050;s09;s19;s29;s39;");
    }

    private static void lowestBits() {
        GuestWeighsLess x = two();
        x.row(6, 0, 4);
        x.put(6, 0, 'b' + 256);
        x.put(6, 1, '7' - 256);
        x.put(6, 2, '8' + 65536);
        x.put(6, 3, ';');
        check.due("bytes by their lowest bits", x.house(6), 1);
        check.due("board", x.count(3), 7);
        check.due("dance", x.count(4), 8);
    }

    private static void newcomers() {
        GuestWeighsLess x = new GuestWeighsLess();
        due(x, "g0000;g7999;", 2);
        check.due("kind 0", x.guest(0, 0), 0);
        check.due("figure 0", x.guest(0, 1), 0);
        check.due("weight 0", x.guest(0, 2), 0);
        check.due("kind 7", x.guest(1, 0), 7);
        check.due("figure 9", x.guest(1, 1), 9);
        check.due("weight 99", x.guest(1, 2), 99);
        check.due("entered", x.guest(1, 3), 108);
        check.due("three secrets", x.guest(1, 4), 3);
        check.due("came on day 0", x.guest(1, 5), 0);
        due(new GuestWeighsLess(), "g8050;", -2000);
        due(new GuestWeighsLess(), "g9050;", -2000);
        due(new GuestWeighsLess(), "g7050;g8050;", -2006);
        GuestWeighsLess later = Check.told("d60;g4999;");
        check.due("came on this day", later.guest(0, 5), 60);
        check.due("the most one can enter with", later.guest(0, 3), 117);
    }

    private static void roomForSeven() {
        GuestWeighsLess x = new GuestWeighsLess();
        due(x, SEVEN, 7);
        check.due("seven", x.count(0), 7);
        check.due("all in", x.count(5), 127);
        due(x, "g0050;", -2000);
        due(new GuestWeighsLess(), SEVEN + "g0050;", -2042);
        due(new GuestWeighsLess(), SEVEN + "g8050;", -2042);
        due(x, "b09;d60;", 2);
        check.due("all but the bishop have left", x.count(5), 16);
        due(x, "g0050;", -2000);
        x.keep(0, 1, 0, 0);
        check.due("nor is there room on a shelf's way", x.comes(0, 50), -2);
        due(two(), SEVEN.substring(0, 30), 5);
        due(two(), SEVEN.substring(0, 36), -2030);
    }

    private static void tablesAndSecrets() {
        GuestWeighsLess x = Check.told(SEVEN);
        due(x, "b00;", 1);
        check.due("board and dance 0", x.table(1, 1), 0);
        due(x, "b99;", 1);
        check.due("board and dance 9", x.table(1, 1), 99);
        due(x, "b90;", 1);
        check.due("board 9, dance 0", x.table(0, 9), 90);
        due(x, "s00;s69;", 2);
        check.due("no secrets", x.guest(0, 4), 0);
        check.due("nine secrets", x.guest(6, 4), 9);
        check.due("their weight holds", x.guest(6, 2), 50);
        due(x, "s70;", -2000);
        due(x, "s99;", -2000);
        due(new GuestWeighsLess(), "s00;", -2000);
    }

    private static void tellings() {
        due(Check.told(SEVEN), "t0;t6;", 2);
        due(Check.told(SEVEN), "t6;t7;", -2003);
        due(Check.told(SEVEN), "t9;", -2000);
        due(new GuestWeighsLess(), "t0;", -2000);
        due(two(), "t1;t1;t1;", 3);
        due(two(), "t1;t1;t1;t1;", -2009);
        due(two(), "s11;t1;t1;", -2007);
        due(two(), "s10;t1;", -2004);
        GuestWeighsLess nine = two();
        due(nine, "s09;t0;t0;t0;t0;t0;t0;t0;t0;t0;", 10);
        check.due("nine told", nine.guest(0, 2), 41);
        due(nine, "t0;", -2000);
        due(two(), "b03;d01;t0;", -2008);
        GuestWeighsLess light = Check.told("g5002;");
        due(light, "t0;", 1);
        check.due("0 at least", light.guest(0, 2), 0);
    }

    private static void lendings() {
        due(two(), "l0101;", 1);
        due(two(), "l0120;", 1);
        due(two(), "l0100;", -2000);
        due(two(), "l0121;", -2000);
        due(two(), "l0199;", -2000);
        due(two(), "l0005;", -2000);
        due(two(), "l1105;", -2000);
        due(two(), "l0205;", -2000);
        due(two(), "l2005;", -2000);
        due(Check.told(SEVEN), "l6005;l0605;", 2);
        due(Check.told(SEVEN), "l7005;", -2000);
        due(Check.told(SEVEN), "l0705;", -2000);
        GuestWeighsLess all = Check.told("g0007;g0092;");
        due(all, "l0108;", -2000);
        due(all, "l1020;l0120;l0107;", 3);
        check.due("he has none", all.guest(0, 2), 0);
        check.due("the other has 99", all.guest(1, 2), 99);
        due(all, "l0101;", -2000);
        due(Check.told("g0008;g0092;"), "l0108;", -2000);
        due(Check.told("g0007;g0090;"), "l0108;", -2000);
        due(Check.told("g0050;g4050;b03;d01;"), "l0105;", -2000);
        due(Check.told("g0050;g4050;b03;d01;"), "l1005;", -2000);
    }

    private static void days() {
        GuestWeighsLess x = new GuestWeighsLess();
        due(x, "d01;", 1);
        check.due("one day", x.count(1), 1);
        due(x, "d60;", 1);
        check.due("sixty days", x.count(1), 61);
        due(x, "d00;", -2000);
        due(x, "d61;", -2000);
        due(x, "d99;", -2000);
        due(x, "b11;d60;d61;", -2008);
        check.due("none went", x.count(1), 61);
    }

    private static void daysUpTo999() {
        GuestWeighsLess x = new GuestWeighsLess();
        due(x, "d60;d60;d60;d60;d60;d60;d60;d60;d60;d60;d60;d60;d60;d60;d60;d60;", 16);
        check.due("day", x.count(1), 960);
        due(x, "d40;", -2000);
        due(x, "d38;d02;", -2004);
        check.due("none of them went", x.count(1), 960);
        due(x, "d38;", 1);
        due(x, "d02;", -2000);
        due(x, "d01;g0050;", 2);
        check.due("the last day", x.count(1), 999);
        check.due("came on the last day", x.guest(0, 5), 999);
        due(x, "d01;", -2000);
        check.due("days is refused, too", x.days(1), -3);
    }

    private static void oneBehindTheOther() {
        due(new GuestWeighsLess(), "g0050;t0;", 2);
        due(new GuestWeighsLess(), "t0;g0050;", -2000);
        due(new GuestWeighsLess(), "g0050;t1;g0050;", -2006);
        due(Check.told("g0003;g0050;"), "l0105;l1002;l0105;", -2000);
        due(Check.told("g0003;g0050;"), "l1002;l0105;", 2);
        due(two(), "t0;t5;l0000;d00;", -2003);
        due(two(), "b03;d01;l0101;t0;", -2008);
        due(two(), "s00;t0;s01;", -2004);
        due(two(), "s01;t0;s01;t0;", 4);
        GuestWeighsLess x = two();
        due(x, "b99;t0;l0110;g0060;d01;s09;d00;", -2027);
        check.due("nobody more", x.count(0), 2);
        check.due("table", x.table(1, 1), 22);
        check.due("weight", x.guest(0, 2), 50);
        check.due("secrets", x.guest(0, 4), 3);
        check.due("day", x.count(1), 0);
    }
}
