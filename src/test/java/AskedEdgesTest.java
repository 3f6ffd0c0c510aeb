/** Promises 14 to 32 at their edges: the last that still helps and the first that does not, ties, skipped elements. */
public final class AskedEdgesTest {
    private static final Check check = new Check();
    private static final String SEVEN_GUESTS = "g0050;g0050;g0050;g0050;g0050;g0050;g0050;";

    public static void main(String[] args) {
        feedFromBoard0To9();
        emptyFromDance0To9();
        tellFromNoneToNine();
        tellByStay();
        loanFromOneToTwenty();
        waitsTies();
        pairsOfSeven();
        pairsOfFivePounds();
        tearsOfSeven();
        skippedBySort();
        whatIsByHundred();
        cameWithFrom0To120();
        cameWithByStay();
        twoUpTo30();
        twoAtTheHeaviest();
        feastsAtBoard9();
        feastsOfSevenDays();
        meanOfNoneAndOne();
        forgedToTheLast();
        judgeToTheLast();
        seasonsBySeeds();
        seasonsOfThoseIn();
        images();
        check.end();
    }

    private static void feedFromBoard0To9() {
        // the singer has 6 too many: 6 a day less by boards 8 and 9 makes 6, every other board 4 at most;
        // the child has 26 too many: behind 14 days of 2 less it makes 2 by board 9, and 1 by board 8
        GuestWeighsLess x = Check.told("b09;g7050;g2902;");
        x.weighs(0, 56);
        x.weighs(1, 28);
        check.due("board 9", x.feed(60, 0), 9);
        check.due("how much", x.feed(60, 1), 8);
        check.due("14 days", x.feed(14, 0), 9);
        check.due("13 days are too few for it", x.feed(13, 0), 8);
        check.due("how much", x.feed(13, 1), 7);
        check.due("no days, all alike: board 0", x.feed(0, 0), 0);
        check.due("no days: nothing", x.feed(0, 1), 0);
        GuestWeighsLess y = Check.told("b99;g0050;");
        check.due("board 0 alone", y.feed(1, 0), 0);
        check.due("9 less", y.feed(1, 1), 9);
        // 87 too many: 3, 3, 1, 4, 4 by boards 0, 2, 4, 6, 8 (and as much by the next ones); a board 10 would make 5
        GuestWeighsLess singer = Check.told("b09;g7900;");
        singer.weighs(0, 96);
        check.due("no board above 9", singer.feed(60, 0), 6);
        check.due("no board above 9: how much", singer.feed(60, 1), 4);
        // by board 0 or 1 the aunt eats nothing
        GuestWeighsLess aunt = Check.told("b90;g1050;");
        check.due("0 and 1 are alike", aunt.feed(1, 0), 0);
        check.due("1 less", aunt.feed(1, 1), 1);
    }

    private static void emptyFromDance0To9() {
        GuestWeighsLess x = Check.told("b09;g1050;");
        check.due("an aunt goes by dance 0", x.empty(1), 0);
        check.due("not with no days", x.empty(0), -4);
        check.due("dance 1", Check.told("b09;g0050;").empty(1), 1);
        check.due("dance 9", Check.told("b80;g0050;").empty(60), 9);
        check.due("9 is no more than 9", Check.told("b90;g0050;").empty(60), -4);
        check.due("nobody", new GuestWeighsLess().empty(60), 0);
        GuestWeighsLess bishop = Check.told("b00;g4050;");
        bishop.weighs(0, 40);
        check.due("a bishop stays 9 days", bishop.empty(8), -4);
        check.due("49 of 50 behind 9", bishop.empty(9), 0);
        GuestWeighsLess sixty = Check.told("b80;g0032;");
        sixty.weighs(0, 91);
        check.due("behind 60 days", sixty.empty(60), 9);
        check.due("not behind 59", sixty.empty(59), -4);
    }

    private static void tellFromNoneToNine() {
        GuestWeighsLess x = Check.told("b33;g0050;s09;");
        int[] weights = {49, 50, 57, 58, 59};
        int[] due = {0, 1, 8, 9, -4};
        for (int i = 0; i < weights.length; i++) {
            x.weighs(0, weights[i]);
            check.due("tell with " + weights[i], x.tell(0), due[i]);
        }
        Check.read(x, "s00;");
        x.weighs(0, 50);
        check.due("he has none", x.tell(0), -4);
        x.weighs(0, 49);
        check.due("he needs none", x.tell(0), 0);
        Check.read(x, "s01;");
        x.weighs(0, 50);
        check.due("he needs the one he has", x.tell(0), 1);
        x.weighs(0, 51);
        check.due("one is too few", x.tell(0), -4);
    }

    private static void tellByStay() {
        GuestWeighsLess x = Check.told("b33;g6150;g6250;b43;");
        check.due("50, 3 eaten, 1 danced off: 3", x.tell(0), 3);
        x.table(3, 1);
        x.weighs(0, 48);
        check.due("48, 2 eaten, nothing danced off: 1", x.tell(0), 1);
        x.weighs(1, 40);
        check.due("he will not have stayed", x.tell(1), -4);
        Check.read(x, "d01;g4050;");
        check.due("now he will", x.tell(1), 0);
        check.due("a bishop will not", x.tell(2), -4);
    }

    private static void loanFromOneToTwenty() {
        GuestWeighsLess x = Check.told("b33;g0001;g0079;");
        int[] weights = {0, 1, 2, 19, 20, 21};
        int[] due = {0, 1, 2, 19, 20, -4};
        for (int i = 0; i < weights.length; i++) {
            x.weighs(0, weights[i]);
            check.due("loan with " + weights[i], x.loan(0, 1), due[i]);
        }
        x.weighs(0, 20);
        x.weighs(1, 80);
        check.due("twenty would be 100", x.loan(0, 1), -4);
        x.weighs(0, 19);
        check.due("nineteen are 99", x.loan(0, 1), 19);
        x.weighs(1, 99);
        check.due("no place for one", x.loan(0, 1), -4);
        x.weighs(0, 0);
        check.due("none is needed", x.loan(0, 1), 0);
        GuestWeighsLess never = Check.told("b90;g0005;g0050;");
        check.due("all five are too few", never.loan(0, 1), -4);
        check.due("a bishop can't go so soon", Check.told("b03;g4050;g0010;").loan(0, 1), -4);
    }

    private static void waitsTies() {
        GuestWeighsLess x = Check.told("b03;" + SEVEN_GUESTS);
        check.due("all gain alike: the least", x.waits(5), 0);
        check.due("too few days to gain", x.waits(4), -4);
        for (int g = 0; g < 6; g++) {
            x.weighs(g, 14);
        }
        // with 14 he goes with 11: 39; in 5 days he has 0: 50. The last makes 15 in place of 3
        check.due("11 more each, the last 12 more", x.waits(5), 6);
        // nothing is danced off: waiting makes no more than as it is
        GuestWeighsLess same = Check.told("b00;g0050;");
        same.weighs(0, 49);
        check.due("no more is no gain", same.waits(60), -4);
        GuestWeighsLess left = Check.told("b03;g0050;d01;g0050;");
        check.due("who has left is not asked", left.waits(60), 1);
    }

    private static void pairsOfSeven() {
        GuestWeighsLess x = Check.told("b33;" + SEVEN_GUESTS);
        check.due("three pairs", x.pairs(-1), 3);
        int[] with = {1, 0, 3, 2, 5, 4, -4};
        for (int g = 0; g < 7; g++) {
            check.due("with whom " + g + " is", x.pairs(g), with[g]);
        }
        GuestWeighsLess heavy = Check.told("b00;g0099;g0099;g0099;g0099;g0099;g0099;g0099;");
        for (int g = 0; g < 7; g++) {
            heavy.weighs(g, 97);
        }
        check.due("no two can be, but all go", heavy.pairs(-1), 7);
        for (int g = 0; g < 7; g++) {
            check.due("alone " + g, heavy.pairs(g), -4);
        }
        heavy.weighs(2, 94);
        heavy.weighs(6, 99);
        // 6 goes only if 2 takes his 5, and then 2 holds 99, which is not less
        check.due("six go", heavy.pairs(-1), 6);
        check.due("0 gives 2 his 5: 2 stays", heavy.pairs(0), -4);
        check.due("2 and 6: one goes in place of the other", heavy.pairs(2), 6);
        check.due("6 and 2", heavy.pairs(6), 2);
    }

    private static void pairsOfFivePounds() {
        GuestWeighsLess x = Check.told("b90;g0005;g0004;g0004;");
        check.due("five can be lent", x.pairs(0), 1);
        check.due("by the other, too", x.pairs(1), 0);
        check.due("four can't", x.pairs(2), -4);
        check.due("nobody goes", x.pairs(-1), 0);
        GuestWeighsLess y = Check.told("b90;g0094;g0095;g0095;");
        check.due("94 can have five more", y.pairs(0), 1);
        check.due("95 can't", y.pairs(2), -4);
        GuestWeighsLess z = Check.told("b90;g0095;g0004;");
        check.due("95 to 4", z.pairs(0), 1);
        GuestWeighsLess none = Check.told("b90;g0004;g0004;");
        check.due("neither has five", none.pairs(0), -4);
        GuestWeighsLess full = Check.told("b90;g0095;g0095;");
        check.due("neither can have five more", full.pairs(0), -4);
    }

    private static void tearsOfSeven() {
        GuestWeighsLess x = Check.told("b33;" + SEVEN_GUESTS);
        check.due("nobody is without secrets", x.tears(0), 0);
        check.due("all alike: 21 twos", x.tears(1), 21);
        check.due("nobody goes", x.tears(2), 0);
        check.due("three each", x.tears(3), 21);
        Check.read(x, "s00;s10;s20;s30;s40;s50;s60;b32;");
        check.due("all are without secrets", x.tears(0), 127);
        check.due("nobody goes with 51", x.tears(2), 0);
        check.due("no secrets", x.tears(3), 0);
        Check.read(x, "s09;s19;s29;s39;s49;s59;s69;b34;");
        check.due("nobody is", x.tears(0), 0);
        check.due("all go", x.tears(2), 127);
        check.due("nine each", x.tears(3), 63);
        x.weighs(0, 51);
        check.due("but one, of 50", x.tears(2), 126);
        check.due("15 twos", x.tears(1), 15);
        Check.read(x, "s61;s01;t6;t0;");
        check.due("the last and the first", x.tears(0), 65);
    }

    /** The least number of each sort is skipped, its neighbour and the other sorts' least are not. */
    private static void skippedBySort() {
        int[] least = {-128, -32768, Integer.MIN_VALUE};
        GuestWeighsLess x = Check.told("b00;g0050;");
        for (int sort = 0; sort < 3; sort++) {
            for (int other = 0; other <= sort; other++) {
                boolean skipped = other == sort;
                Check.put(x, 0, sort, least[other], 50);
                check.due("kinds", x.whatIs(0, 0, 0) & 1, skipped ? 1 : 0);
                check.due("figures", x.whatIs(0, 0, 1), skipped ? 1023 : 0);
                check.due("judged", x.judge(0), skipped ? -4 : 0);
                Check.put(x, 0, sort, 1, least[other]);
                check.due("came with", x.cameWith(0, 0, 0), skipped ? 121 : 0);
                check.due("forged skips nothing", x.forged(0), 0);
            }
            Check.put(x, 0, sort, least[sort] + 1, 50);
            check.due("the next number: kinds", x.whatIs(0, 0, 0), 0);
            check.due("the next number: judged", x.judge(0), 0);
            check.due("the next number: came with", x.cameWith(0, 0, 0), 0);
            Check.put(x, 0, sort, 50, 50, least[sort]);
            check.due("the last is skipped", x.judge(0), -4);
        }
        Check.put(x, 0, 0, 128, 50);
        check.due("128 is -128 in bytes", x.judge(0), -4);
        Check.put(x, 0, 1, 32768, 50);
        check.due("32768 is -32768 in shorts", x.judge(0), -4);
    }

    private static void whatIsByHundred() {
        GuestWeighsLess x = Check.told("b00;g0050;");
        x.row(0, 2, 100);
        for (int i = 0; i < 100; i++) {
            x.put(0, i, 50);
        }
        // an aunt dances 1 off, a bishop eats 1 more than that, a fugitive and a poor one hold their weight
        check.due("kinds of a hundred", x.whatIs(0, 0, 0), 1 + 8 + 32 + 64);
        x.put(0, 99, 49);
        check.due("the hundredth is not so", x.whatIs(0, 0, 0), 0);
        x.put(0, 99, Integer.MIN_VALUE);
        check.due("the hundredth is skipped", x.whatIs(0, 0, 0), 1 + 8 + 32 + 64);
        x.row(0, 2, 0);
        check.due("nothing is told: all kinds", x.whatIs(0, 0, 0), 255);
        check.due("nothing is told: all figures", x.whatIs(0, 0, 1), 1023);
        GuestWeighsLess child = Check.told("b00;g2250;");
        int[] figures = {7, 56, 448, 512};
        for (int off = 0; off < 4; off++) {
            Check.put(child, 0, 0, 50, 50 + 1 - off);
            check.due("figures by " + off + " danced off", child.whatIs(0, 0, 1), figures[off]);
        }
        Check.put(child, 0, 0, 50, 50 + 1 - 4);
        check.due("no figure dances 4 off", child.whatIs(0, 0, 1), 0);
    }

    private static void cameWithFrom0To120() {
        int[] weights = {0, 1, 98, 99};
        for (int weight : weights) {
            GuestWeighsLess x = Check.told("b00;g0050;");
            x.weighs(0, weight);
            Check.put(x, 0, 0, 1, 0);
            check.due("goes: how many", x.cameWith(0, 0, 0), 120 - weight);
            check.due("goes: the least", x.cameWith(0, 0, 1), weight + 1);
            check.due("goes: the greatest", x.cameWith(0, 0, 2), 120);
            Check.put(x, 0, 0, 1, 1);
            check.due("stays: how many", x.cameWith(0, 0, 0), weight + 1);
            check.due("stays: the least", x.cameWith(0, 0, 1), 0);
            check.due("stays: the greatest", x.cameWith(0, 0, 2), weight);
            Check.put(x, 0, 0, 0);
            check.due("he is in: none", x.cameWith(0, 0, 0), 0);
            check.due("no least", x.cameWith(0, 0, 1), -4);
            check.due("no greatest", x.cameWith(0, 0, 2), -4);
        }
        GuestWeighsLess far = Check.told("b10;g0099;");
        far.weighs(0, 0);
        far.row(0, 0, 100);
        for (int i = 0; i < 100; i++) {
            far.put(0, i, 1);
        }
        check.due("a hundred: with 0 or 1 he stays", far.cameWith(0, 0, 0), 2);
        far.put(0, 99, 0);
        check.due("he can't go on the 99th day", far.cameWith(0, 0, 0), 0);
        far.put(0, 99, 2);
        check.due("2 is neither in nor left", far.cameWith(0, 0, 0), 0);
    }

    private static void cameWithByStay() {
        GuestWeighsLess x = Check.told("b03;g2350;");
        // a child of figure 3 eats 1 and dances 4 off: 47, 44, 41, 38; it stays 3 days
        Check.put(x, 0, 0, 1, 1, 1, 0);
        check.due("behind 3 days: more than 41", x.cameWith(0, 0, 1), 42);
        check.due("up to 120", x.cameWith(0, 0, 2), 120);
        Check.put(x, 0, 0, 1, 1, 0);
        check.due("behind 2 days: none", x.cameWith(0, 0, 0), 0);
        Check.put(x, 0, 0, 1, 1, 1, 1, 0);
        check.due("behind 4 days: 39, 40, 41", x.cameWith(0, 0, 0), 3);
        check.due("the least", x.cameWith(0, 0, 1), 39);
        check.due("the greatest", x.cameWith(0, 0, 2), 41);
    }

    private static void twoUpTo30() {
        GuestWeighsLess x = Check.told("b23;g0050;g0099;b23;");
        // he has 1 less a day, and 2 less by fasting; the other, with 9, goes anyway
        x.weighs(0, 81);
        x.weighs(1, 9);
        check.due("49 behind 29 days but by fasting", x.two(0, 1, 29), 0);
        check.due("49 behind 30 days by fasting: 81 less 3 less 29", x.two(0, 1, 30), 10);
        check.due("the other way round", x.two(1, 0, 30), 1);
        x.weighs(0, 80);
        check.due("behind 29 days by fasting", x.two(0, 1, 29), 10);
        check.due("not behind 28", x.two(0, 1, 28), 0);
        x.weighs(0, 79);
        check.due("behind 30 days he has left without fasting", x.two(0, 1, 30), 0);
        x.weighs(0, 83);
        check.due("no use behind 30 days", x.two(0, 1, 30), 0);
    }

    /** 99 by 20 is 4, and 6 less 1 for fasting is more. */
    private static void twoAtTheHeaviest() {
        GuestWeighsLess x = Check.told("b50;g0099;g0099;");
        check.due("99 holds with or without", x.two(0, 1, 1), 0);
        x.weighs(0, 98);
        check.due("98 goes by fasting", x.two(0, 1, 1), 10);
        x.weighs(1, 98);
        check.due("both go by fasting", x.two(0, 1, 30), 11);
        GuestWeighsLess y = Check.told("b10;g0080;g0080;");
        y.weighs(0, 79);
        check.due("80 eaten, 79 fasted", y.two(0, 1, 1), 10);
        y.weighs(1, 78);
        check.due("78 goes with 79", y.two(0, 1, 1), 10);
    }

    private static void feastsAtBoard9() {
        int[] boards = {5, 6, 7, 9};
        // dance 9, entered with 50, 50 now: goes if it eats 8 or less
        int[] above = {1, 1, 1, 0};
        int[] below = {1, 2, 2, 1};
        for (int i = 0; i < boards.length; i++) {
            GuestWeighsLess x = Check.told("b09;g0050;");
            x.table(boards[i], 9);
            check.due("board " + boards[i] + ": above", x.feasts(0, 1, 2, 0), above[i]);
            check.due("board " + boards[i] + ": below", x.feasts(0, 1, 2, 1), below[i]);
            x.weighs(0, 49);
            check.due("one less: above", x.feasts(0, 1, 2, 0), 1);
            check.due("one less: below", x.feasts(0, 1, 2, 1), 1);
        }
        GuestWeighsLess back = Check.told("b62;g0050;");
        back.feasts(0, 7, 20, 0);
        check.due("the board stays", back.count(3), 6);
    }

    private static void feastsOfSevenDays() {
        // with 50, 1 less a plain day, 2 more a feast: entered with 44, only seven plain days are enough
        GuestWeighsLess x = Check.told("b23;g0044;");
        x.weighs(0, 50);
        check.due("1 in 2: above", x.feasts(0, 7, 2, 0), 1);
        check.due("1 in 2: below", x.feasts(0, 7, 2, 1), 128);
        check.due("1 in 3: above", x.feasts(0, 7, 3, 0), 128);
        check.due("1 in 3: below", x.feasts(0, 7, 3, 1), 2187);
        check.due("1 in 20: above", x.feasts(0, 7, 20, 0), 893871739);
        check.due("1 in 20: below", x.feasts(0, 7, 20, 1), 1280000000);
        check.due("six days are too few: above", x.feasts(0, 6, 2, 0), 0);
        check.due("six days are too few: below", x.feasts(0, 6, 2, 1), 1);
        check.due("no days: above", x.feasts(0, 0, 20, 0), 0);
        check.due("no days: below", x.feasts(0, 0, 20, 1), 1);
    }

    private static void meanOfNoneAndOne() {
        GuestWeighsLess x = new GuestWeighsLess();
        check.due("of none: above", x.mean(0), 0);
        check.due("of none: below", x.mean(1), 1);
        Check.read(x, "g0050;g4999;");
        check.due("nobody left: above", x.mean(0), 0);
        check.due("nobody left: below", x.mean(1), 1);
        Check.read(x, "b09;d01;");
        check.due("of one: above", x.mean(0), 9);
        check.due("of one: below", x.mean(1), 1);
        x.weighs(1, 0);
        Check.read(x, "b01;d08;");
        // the bishop, who had 2 more and 1 less on each of the 8 days, goes with 8: 109
        check.due("of two: above", x.mean(0), 59);
        check.due("of two: below", x.mean(1), 1);
        GuestWeighsLess half = Check.told("b03;g0050;g0002;d01;");
        check.due("3 and 2 of two: above", half.mean(0), 5);
        check.due("3 and 2 of two: below", half.mean(1), 2);
    }

    private static void forgedToTheLast() {
        GuestWeighsLess x = Check.told("g0000;g4999;g0050;g0050;g0050;g0050;g0099;");
        Check.put(x, 0, 0, 0, 117, 50, 50, 50, 50, 99);
        check.due("all seven are so", x.forged(0), -4);
        x.put(0, 6, 98);
        check.due("the last is not", x.forged(0), 6);
        x.put(0, 0, 1);
        check.due("the first is not", x.forged(0), 0);
        Check.put(x, 0, 2, 0, 117, 50, 50, 50, 50, 99, 0);
        check.due("there is no eighth", x.forged(0), 7);
        x.row(0, 0, 0);
        check.due("nothing is told", x.forged(0), -4);
        GuestWeighsLess nobody = new GuestWeighsLess();
        nobody.row(0, 0, 0);
        check.due("nothing of nobody", nobody.forged(0), -4);
        nobody.row(0, 0, 100);
        check.due("something of nobody", nobody.forged(0), 0);
    }

    private static void judgeToTheLast() {
        GuestWeighsLess x = Check.told("b00;g0099;g0099;g0099;g0099;g0099;g0099;g0099;");
        Check.put(x, 0, 1, 693, 693, -32768, 693);
        check.due("seven of 99", x.judge(0), -4);
        x.put(0, 3, 692);
        check.due("the fourth is not so", x.judge(0), 3);
        Check.put(x, 0, 0, 693);
        check.due("693 is too much for a byte", x.judge(0), 0);
        x.row(0, 0, 0);
        check.due("nothing is told", x.judge(0), -4);
        GuestWeighsLess y = Check.told("b03;g0050;g4050;");
        Check.put(y, 0, 0, 100, 51, 52);
        check.due("who has left weighs nothing", y.judge(0), -4);
    }

    /** By board 0, dance 0 one who entered with 99 goes at once, unless the draw is 99: relief is 99 less the draw. */
    private static void seasonsBySeeds() {
        GuestWeighsLess x = Check.told("b00;g0099;");
        int[] seeds = {0, 1, -1, Integer.MAX_VALUE, Integer.MIN_VALUE, 5, -404969853, -115164386, 20036382, -269769085,
            230538014, 2088216195, -1916945634, -59267453};
        int[] draws = {0, 38, 29, 29, 0, 55, 1, 0, 99, 0, 67, 0, 67, 0};
        for (int i = 0; i < seeds.length; i++) {
            check.due("relief by seed " + seeds[i], x.seasons(1, seeds[i], 0), 99 - draws[i]);
            check.due("in by seed " + seeds[i], x.seasons(1, seeds[i], 1), draws[i] == 99 ? 1 : 0);
        }
        // draws by seed 0: 0, 68, 88, 17, 98, 27, 45, 41
        check.due("eight seasons", x.seasons(8, 0, 0), 99 + 31 + 11 + 82 + 1 + 72 + 54 + 58);
        int sum = 0;
        int seed = 0;
        for (int season = 0; season < 20; season++) {
            seed = seed * 1103515245 + 12345;
            sum += 99 - (seed >>> 16) % 32768 % 100;
        }
        check.due("twenty seasons", x.seasons(20, 0, 0), sum);
        check.due("nothing changes", x.count(2), 0);
        check.due("the same again", x.seasons(20, 0, 0), sum);
    }

    private static void seasonsOfThoseIn() {
        // the first has left, so the first draw, 0 by seed 0, is the second's, and the third has 68
        GuestWeighsLess x = Check.told("b03;g0050;d01;b00;g0099;g0060;");
        check.due("one draw each of those in", x.seasons(1, 0, 0), 99);
        check.due("68 of 60 stays", x.seasons(1, 0, 1), 1);
        // then 88 and 17, then 98 and 27
        check.due("each season from now", x.seasons(3, 0, 0), 99 + 11 + 43 + 1 + 33);
        check.due("one stays in one season", x.seasons(3, 0, 1), 1);
        // a bishop goes on the ninth day and no sooner: 0 and 9 more
        GuestWeighsLess bishop = Check.told("b00;g4050;");
        check.due("nine days", bishop.seasons(1, 0, 0), 41);
        check.due("nobody is in behind 9", bishop.seasons(1, 0, 1), 0);
        GuestWeighsLess child = Check.told("b03;d01;g2950;");
        check.due("a child of 9 stays 9: 0", child.seasons(1, 0, 0), 50);
        GuestWeighsLess seven = Check.told("b90;" + SEVEN_GUESTS);
        check.due("all stay, each time", seven.seasons(20, 99, 1), 20 * 7 - leftOf(seven));
    }

    /** By board 9, dance 0 who is drawn too light goes on the first day only if he has less than 50 then. */
    private static int leftOf(GuestWeighsLess seven) {
        int left = 0;
        int seed = 99;
        for (int draw = 0; draw < 140; draw++) {
            seed = seed * 1103515245 + 12345;
            left += (seed >>> 16) % 32768 % 100 + 9 < 50 ? 1 : 0;
        }
        return left;
    }

    private static void images() {
        GuestWeighsLess x = new GuestWeighsLess();
        check.due("none is taken", x.restore(), -3);
        check.due("of nobody, on day 0", x.image(), 0);
        Check.read(x, "b99;d05;" + SEVEN_GUESTS);
        check.due("seven", x.count(0), 7);
        check.due("restored: nobody", x.restore(), 0);
        int[] first = {0, 0, 0, 2, 3, 0, 0};
        for (int i = 0; i < first.length; i++) {
            check.due("as at first " + i, x.count(i), first[i]);
        }
        Check.read(x, SEVEN_GUESTS + "b03;");
        x.image();
        x.days(1);
        check.due("all left", x.count(5), 0);
        check.due("restored again", x.restore(), 0);
        check.due("all in", x.count(5), 127);
        check.due("no relief", x.count(2), 0);
        check.due("they go again", x.days(1), 21);
        check.due("the image holds", x.restore(), 0);
        check.due("all in again", x.count(5), 127);
    }
}
