/** Promises 14 to 21: what to feed and dance, to tell, to lend, whom to ask to stay, pairs, the ledger, tears. */
public final class AdviceTest {
    private static final Check check = new Check();

    public static void main(String[] args) {
        feed();
        empty();
        tell();
        loan();
        waits();
        pairs();
        pairsThatCanNotBe();
        pairsOfFive();
        ledger();
        tears();
        check.end();
    }

    private static void feed() {
        GuestWeighsLess x = Check.told("b93;g0050;");
        check.due("board", x.feed(1, 0), 0);
        check.due("how much", x.feed(1, 1), 3);
        check.due("0 days: the least board", x.feed(0, 0), 0);
        check.due("0 days: relief as it is", x.feed(0, 1), 0);
        check.due("60 days", x.feed(60, 1), 3);
        check.due("the table stays", x.count(3), 9);
        // entered with 60, now 68: by board 0 he goes with 59, by board 1 he has 60, then goes with 52
        GuestWeighsLess y = Check.told("b09;g0060;");
        y.weighs(0, 68);
        check.due("a board that makes him go later", y.feed(9, 0), 1);
        check.due("how much", y.feed(9, 1), 8);
        check.due("one day only", y.feed(1, 0), 0);
        check.due("one day only: how much", y.feed(1, 1), 1);
        y.days(1);
        check.due("relief that is there counts", y.feed(9, 1), 1);
        check.due("61", x.feed(61, 0), -1);
        check.due("-1", x.feed(-1, 0), -1);
        check.due("what 2", x.feed(1, 2), -1);
        check.due("what -1", x.feed(1, -1), -1);
    }

    private static void empty() {
        GuestWeighsLess x = Check.told("b60;g0050;g3450;");
        check.due("two days", x.empty(2), 7);
        check.due("no days", x.empty(0), -4);
        check.due("the table stays", x.count(4), 0);
        x.weighs(0, 60);
        check.due("one day: too heavy", x.empty(1), -4);
        check.due("six days", x.empty(6), 8);
        check.due("nobody there", new GuestWeighsLess().empty(0), 0);
        check.due("dance 9", Check.told("b80;g0050;").empty(1), 9);
        check.due("10 would be needed", Check.told("b90;g0050;").empty(1), -4);
        check.due("61", x.empty(61), -1);
        check.due("-1", x.empty(-1), -1);
    }

    private static void tell() {
        GuestWeighsLess x = Check.told("b33;g0050;g5650;g4950;g2050;s25;");
        check.due("a guest: one", x.tell(0), 1);
        check.due("a fugitive of 54 entered, 50 + 6 - 2: one", x.tell(1), 1);
        check.due("a bishop stays", x.tell(2), -4);
        check.due("a child gains nothing by it", x.tell(3), -4);
        x.weighs(0, 52);
        check.due("three", x.tell(0), 3);
        x.weighs(0, 53);
        check.due("four are too many", x.tell(0), -4);
        x.weighs(0, 49);
        check.due("none", x.tell(0), 0);
        check.due("only in mind", x.guest(0, 4), 3);
        check.due("4", x.tell(4), -1);
        check.due("-1", x.tell(-1), -1);
        x.days(1);
        check.due("left", x.tell(0), -3);
    }

    private static void loan() {
        GuestWeighsLess x = Check.told("b33;g0050;g0090;g4099;g0008;");
        check.due("one", x.loan(0, 1), 1);
        check.due("he goes anyway", Check.told("b03;g0050;g0050;").loan(0, 1), 0);
        x.weighs(0, 58);
        check.due("nine", x.loan(0, 1), 9);
        x.weighs(0, 59);
        check.due("ten would make the other 100", x.loan(0, 1), -4);
        check.due("nobody can lend to one of 99", x.loan(0, 2), -4);
        x.weighs(0, 69);
        check.due("twenty", x.loan(0, 3), 20);
        x.weighs(0, 70);
        check.due("twenty-one are too many", x.loan(0, 3), -4);
        x.table(9, 0);
        check.due("he has 8 only", x.loan(3, 0), -4);
        check.due("only in mind", x.guest(0, 2), 70);
        check.due("one twice", x.loan(0, 0), -1);
        check.due("no such one", x.loan(0, 4), -1);
        check.due("no such one", x.loan(-1, 0), -1);
        x.table(0, 9);
        x.weighs(0, 1);
        x.days(1);
        check.due("he left", x.loan(0, 2), -3);
        check.due("the other left", x.loan(2, 0), -3);
        check.due("one twice goes ahead", x.loan(0, 0), -1);
    }

    private static void waits() {
        GuestWeighsLess x = Check.told("b03;g0050;g0050;");
        check.due("behind 5 days he has 15 less, as it is 3", x.waits(5), 0);
        check.due("behind 4 days there is less", x.waits(4), -4);
        check.due("0 days", x.waits(0), -4);
        check.due("only in mind", x.guest(0, 5), 0);
        check.due("61", x.waits(61), -1);
        check.due("-1", x.waits(-1), -1);
        GuestWeighsLess y = Check.told("b03;g0050;g7050;g0050;");
        check.due("the singer is most", y.waits(5), 1);
        y.days(1);
        check.due("nobody in", y.waits(60), -4);
        check.due("nobody", new GuestWeighsLess().waits(60), -4);
        GuestWeighsLess z = Check.told("b13;g2950;");
        check.due("his stay is 14 then", z.waits(13), -4);
        check.due("his stay is 14 then", z.waits(14), 0);
    }

    private static void pairs() {
        GuestWeighsLess x = Check.told("b33;g0050;g0050;g0050;");
        check.due("one of each two", x.pairs(-1), 1);
        check.due("0 with 1", x.pairs(0), 1);
        check.due("1 with 0", x.pairs(1), 0);
        check.due("2 alone", x.pairs(2), -4);
        x.weighs(1, 49);
        x.weighs(2, 40);
        // 1 and 2 go anyway; 0 goes too if 2 takes his 5; 1 would not bear them
        check.due("all three", x.pairs(-1), 3);
        check.due("0 with 2", x.pairs(0), 2);
        check.due("1 alone", x.pairs(1), -4);
        check.due("2 with 0", x.pairs(2), 0);
        check.due("only in mind", x.guest(0, 2), 50);
        check.due("3", x.pairs(3), -1);
        check.due("-2", x.pairs(-2), -1);
        x.days(1);
        check.due("those who left do not count", x.pairs(-1), 0);
        check.due("left", x.pairs(1), -4);
        check.due("nobody to be with", x.pairs(0), -4);
        check.due("nobody", new GuestWeighsLess().pairs(-1), 0);
    }

    private static void pairsThatCanNotBe() {
        GuestWeighsLess light = Check.told("b90;g0004;g0003;g0050;");
        check.due("two who can't lend are not with each other", light.pairs(0), 2);
        check.due("so this one is alone", light.pairs(1), -4);
        GuestWeighsLess heavy = Check.told("b90;g0095;g0096;g0004;g0094;");
        check.due("95 and 96 can't be two", heavy.pairs(0), 2);
        check.due("96 and 94", heavy.pairs(1), 3);
        GuestWeighsLess four = Check.told("b33;g0050;g0050;g4050;g4050;");
        check.due("both guests go", four.pairs(-1), 2);
        check.due("each with a bishop", four.pairs(0), 2);
        check.due("each with a bishop", four.pairs(1), 3);
    }

    /** Entered with 50 each, weights hold: 0 and 1 lack one pound, 2 lacks six, 3 can bear 5 more, 4 goes anyway. */
    private static void pairsOfFive() {
        GuestWeighsLess x = Check.told("b33;g0050;g0050;g0050;g0050;g0050;");
        x.weighs(2, 55);
        x.weighs(3, 44);
        x.weighs(4, 49);
        check.due("all but 2", x.pairs(-1), 4);
        int[] with = {2, 3, 0, 1, -4};
        for (int g = 0; g < with.length; g++) {
            check.due("with whom " + g + " is", x.pairs(g), with[g]);
        }
        x.weighs(2, 54);
        check.due("2 may go in place of another", x.pairs(-1), 4);
        int[] then = {1, 0, 3, 2, -4};
        for (int g = 0; g < then.length; g++) {
            check.due("with whom " + g + " is then", x.pairs(g), then[g]);
        }
    }

    private static void ledger() {
        GuestWeighsLess x = Check.told("g1950;g0060;g4130;");
        check.due("9 and 0 and 2", x.ledger(), 11);
        x.weighs(1, 90);
        check.due("more", x.ledger(), -19);
        x.table(2, 1);
        x.days(1);
        check.due("the aunt left, 91 of 60 and 32 of 32 are there", x.ledger(), -31);
        check.due("nobody", new GuestWeighsLess().ledger(), 0);
    }

    private static void tears() {
        GuestWeighsLess x = Check.told("b33;g0050;g0060;g0050;g0050;g1960;s00;s30;s40;");
        check.due("without secrets", x.tears(0), 25);
        check.due("twos alike: three of 50, one of 60", x.tears(1), 4);
        check.due("next", x.tears(2), 16);
        check.due("all secrets", x.tears(3), 6);
        x.days(1);
        check.due("without secrets, in", x.tears(0), 9);
        check.due("twos alike, in", x.tears(1), 3);
        check.due("next, not now", x.tears(2), 0);
        check.due("all secrets", x.tears(3), 6);
        check.due("4", x.tears(4), -1);
        check.due("-1", x.tears(-1), -1);
    }
}
