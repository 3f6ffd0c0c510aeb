/** Promises 3 to 13 at their edges: seven guests, what one lacks, days up to 999 and beyond in mind, the order. */
public final class HouseEdgesTest {
    private static final Check check = new Check();
    private static final String SEVEN_BISHOPS = "g4050;g4050;g4050;g4050;g4050;g4050;g4050;";

    public static void main(String[] args) {
        lacks();
        sevenAtMost();
        leftOnesKeepTheirPlace();
        secretsNineToNone();
        loansToTheLastPound();
        tableEdges();
        dayOfLeaving();
        lastDays();
        beyond999InMind();
        sixtyDaysOn();
        orderOfSeven();
        orderOfLeft();
        firstOfSeven();
        check.end();
    }

    private static void lacks() {
        GuestWeighsLess x = Check.told("g0050;g0000;g4999;");
        int[] weights = {48, 49, 50, 51, 99, 0};
        int[] due = {0, 0, 1, 2, 50, 0};
        for (int i = 0; i < weights.length; i++) {
            x.weighs(0, weights[i]);
            check.due("lacks with " + weights[i], x.guest(0, 8), due[i]);
            check.due("may go with " + weights[i], x.guest(0, 7), due[i] == 0 ? 1 : 0);
        }
        check.due("who entered with 0 lacks 1", x.guest(1, 8), 1);
        x.weighs(1, 99);
        check.due("and 100 at most", x.guest(1, 8), 100);
        check.due("a bishop who is light lacks nothing", x.guest(2, 8), 0);
        check.due("but may not go yet", x.guest(2, 7), 0);
        x.days(1);
        check.due("who has left lacks nothing", x.guest(0, 8), 0);
        check.due("nor may he go again", x.guest(0, 7), 0);
        check.due("nor is he in", x.guest(0, 6), 0);
    }

    private static void sevenAtMost() {
        GuestWeighsLess x = new GuestWeighsLess();
        x.keep(0, 1, 4, 9);
        for (int g = 0; g < 7; g++) {
            check.due("guests", x.count(0), g);
            check.due("the number", x.comes(0, 99), g);
        }
        check.due("the eighth", x.comes(0, 99), -2);
        check.due("seven", x.count(0), 7);
        check.due("all in", x.count(5), 127);
        check.due("weight of all", x.count(6), 693);
        check.due("ledger", x.ledger(), 7 * 18);
        for (int g = 0; g < 7; g++) {
            x.weighs(g, 0);
        }
        check.due("weight of all", x.count(6), 0);
        check.due("the highest ledger", x.ledger(), 7 * 117);
        GuestWeighsLess low = Check.told("g0000;g0000;g0000;g0000;g0000;g0000;g0000;");
        for (int g = 0; g < 7; g++) {
            low.weighs(g, 99);
        }
        check.due("the lowest ledger", low.ledger(), -693);
        check.due("weight of all then", low.then(0, 2), 693);
    }

    private static void leftOnesKeepTheirPlace() {
        GuestWeighsLess x = Check.told("b03;g0050;g0050;g0050;g0050;g0050;g0050;g0050;");
        check.due("all go", x.days(1), 21);
        check.due("nobody in", x.count(5), 0);
        check.due("seven all the same", x.count(0), 7);
        x.keep(0, 1, 0, 0);
        check.due("no room", x.comes(0, 50), -2);
        check.due("nobody weighs anything", x.count(6), 0);
        check.due("ledger of nobody", x.ledger(), 0);
        for (int what = 0; what <= 3; what++) {
            check.due("tears of nobody " + what, x.tears(what), 0);
        }
        check.due("pairs of nobody", x.pairs(-1), 0);
        check.due("heaviest of nobody", x.order(-1), -4);
        check.due("order of nobody", x.order(0), -4);
        check.due("first of nobody", x.leaves(-1), -4);
        check.due("empty with no days", x.empty(0), 0);
        check.due("feed", x.feed(60, 0), 0);
        check.due("as much as there is", x.feed(60, 1), 21);
        check.due("nobody waits", x.waits(60), -4);
        check.due("seasons without relief", x.seasons(20, 3, 0), 0);
        check.due("seasons without anybody", x.seasons(20, 3, 1), 0);
        check.due("mean of seven", x.mean(0), 3);
        check.due("mean of seven", x.mean(1), 1);
    }

    private static void secretsNineToNone() {
        GuestWeighsLess x = Check.told("g0050;s09;");
        for (int left = 8; left >= 0; left--) {
            check.due("tells", x.tells(0), 41 + left);
            check.due("secrets", x.guest(0, 4), left);
        }
        check.due("none is there more", x.tells(0), -3);
        check.due("weight stays", x.guest(0, 2), 41);
        check.due("secrets stay", x.guest(0, 4), 0);
        GuestWeighsLess light = Check.told("g5003;g5002;");
        check.due("3 of 3", light.tells(0), 0);
        check.due("3 of 2", light.tells(1), 0);
        check.due("a secret less, too", light.guest(1, 4), 2);
    }

    private static void loansToTheLastPound() {
        GuestWeighsLess x = Check.told("g0020;g0079;g0005;");
        check.due("all he has, and the other has 99", x.lends(0, 1, 20), 0);
        check.due("the other", x.guest(1, 2), 99);
        check.due("who has nothing lends nothing", x.lends(0, 2, 1), -3);
        check.due("who has 99 can't have more", x.lends(2, 1, 1), -3);
        check.due("one pound", x.lends(1, 0, 1), 98);
        check.due("one more than he has", x.lends(0, 2, 2), -3);
        check.due("two for one place", x.lends(2, 1, 2), -3);
        check.due("one", x.lends(2, 1, 1), 4);
        int[] weights = {1, 99, 4};
        for (int g = 0; g < 3; g++) {
            check.due("weight", x.guest(g, 2), weights[g]);
        }
    }

    private static void tableEdges() {
        GuestWeighsLess x = new GuestWeighsLess();
        check.due("board 2, dance 3 at first", x.table(0, 0), 23);
        check.due("0 and 0", x.table(9, 9), 0);
        check.due("9 and 9", x.table(0, 9), 99);
        check.due("a wrong dance", x.table(5, 10), -1);
        check.due("a wrong board", x.table(-1, 5), -1);
        check.due("0 and 9", x.table(9, 0), 9);
        check.due("9 and 0", x.table(2, 3), 90);
    }

    /** They eat and dance first; who weighs less than he entered with then goes on the same day. */
    private static void dayOfLeaving() {
        GuestWeighsLess x = Check.told("b34;g0050;");
        x.weighs(0, 51);
        check.due("50 of 50 stays", x.days(1), 0);
        check.due("in", x.guest(0, 6), 1);
        check.due("49 of 50 goes", x.days(1), 1);
        check.due("left", x.guest(0, 6), 0);
        GuestWeighsLess y = Check.told("b40;g0050;");
        y.weighs(0, 49);
        check.due("who may go, but eats, stays", y.days(1), 0);
        check.due("in", y.guest(0, 6), 1);
        check.due("with 53", y.guest(0, 2), 53);
        GuestWeighsLess most = Check.told("b09;g4999;");
        most.weighs(0, 0);
        most.table(0, 9);
        check.due("a bishop stays 8 days", most.days(8), 0);
        check.due("and goes with 9 on the ninth: 117 less 9", most.days(1), 108);
    }

    private static GuestWeighsLess atDay(int day) {
        GuestWeighsLess x = new GuestWeighsLess();
        for (int i = 0; i < day / 60; i++) {
            x.days(60);
        }
        if (day % 60 > 0) {
            x.days(day % 60);
        }
        return x;
    }

    private static void lastDays() {
        GuestWeighsLess x = atDay(939);
        check.due("61 are out of range, not too many", x.days(61), -1);
        check.due("60 more", x.days(60), 0);
        check.due("day 999", x.count(1), 999);
        check.due("one more", x.days(1), -3);
        check.due("no days", x.days(0), -1);
        check.due("day 999 still", x.count(1), 999);
        GuestWeighsLess y = atDay(940);
        check.due("60 are too many", y.days(60), -3);
        check.due("day 940 still", y.count(1), 940);
        check.due("59 are not", y.days(59), 0);
        GuestWeighsLess z = atDay(998);
        check.due("two are too many", z.days(2), -3);
        check.due("one is not", z.days(1), 0);
        check.due("the image of the last day", z.image(), 999);
        check.due("restored", z.restore(), 999);
    }

    private static void beyond999InMind() {
        GuestWeighsLess x = atDay(999);
        Check.read(x, "b07;g2950;g4950;");
        check.due("came on day 999", x.guest(0, 5), 999);
        check.due("the child leaves behind 9 days", x.leaves(0), 9);
        check.due("so does the bishop, who has 59 of 68", x.leaves(1), 9);
        check.due("the first", x.leaves(-1), 0);
        check.due("weight then", x.weightThen(1, 60), 59);
        check.due("who is in", x.then(8, 0), 3);
        check.due("nobody", x.then(9, 0), 0);
        check.due("relief", x.then(60, 1), 50 + 9);
        check.due("feed", x.feed(60, 1), 50 + 9);
        check.due("empty", x.empty(60), 0);
        check.due("wait: 5 days of 1 more are no gain", x.waits(60), -4);
        // the draws are 0 and 68: the bishop has 77 of 68 behind 9 days
        check.due("a season", x.seasons(1, 0, 1), 1);
        check.due("all that in mind", x.count(1), 999);
        Check.put(x, 0, 0, 50, -128, -128, -128, -128, -128, -128, -128, -128, 0);
        check.due("what kind", x.whatIs(0, 0, 0) & 4, 4);
        Check.put(x, 0, 1, 100, -32768, -32768, -32768, -32768, -32768, -32768, -32768, -32768, 0);
        check.due("judged", x.judge(0), -4);
    }

    private static void sixtyDaysOn() {
        GuestWeighsLess x = Check.told("b12;g0038;g0039;g0040;");
        for (int g = 0; g < 3; g++) {
            x.weighs(g, 98);
        }
        int[] leaves = {-4, 60, 59};
        for (int g = 0; g < 3; g++) {
            check.due("leaves", x.leaves(g), leaves[g]);
        }
        check.due("first", x.leaves(-1), 2);
        check.due("weight behind 60", x.weightThen(0, 60), 38);
        check.due("weight behind 59", x.weightThen(0, 59), 39);
        check.due("weight now", x.weightThen(0, 0), 98);
        check.due("in behind 58", x.then(58, 0), 7);
        check.due("in behind 59", x.then(59, 0), 3);
        check.due("in behind 60", x.then(60, 0), 1);
        check.due("relief behind 60", x.then(60, 1), 2);
        check.due("weight of all behind 60", x.then(60, 2), 38);
        check.due("now: who is in", x.then(0, 0), 7);
        check.due("now: relief", x.then(0, 1), 0);
        check.due("now: weight of all", x.then(0, 2), 294);
        GuestWeighsLess last = Check.told("b12;g0039;");
        last.weighs(0, 98);
        check.due("the first behind 60", last.leaves(-1), 0);
        GuestWeighsLess later = Check.told("b12;g0038;");
        later.weighs(0, 98);
        check.due("nobody behind 60", later.leaves(-1), -4);
        check.due("behind 61 only", later.leaves(0), -4);
    }

    private static void orderOfSeven() {
        GuestWeighsLess x = Check.told(SEVEN_BISHOPS);
        for (int i = 0; i < 7; i++) {
            check.due("alike, by numbers " + i, x.order(i), i);
        }
        check.due("no eighth", x.order(7), -4);
        check.due("the heaviest: the least", x.order(-1), 0);
        int[] weights = {50, 20, 70, 20, 99, 0, 70};
        int[] order = {5, 1, 3, 0, 2, 6, 4};
        for (int g = 0; g < 7; g++) {
            x.weighs(g, weights[g]);
        }
        for (int i = 0; i < 7; i++) {
            check.due("order " + i, x.order(i), order[i]);
        }
        check.due("no eighth", x.order(7), -4);
        check.due("the heaviest", x.order(-1), 4);
        x.weighs(6, 99);
        check.due("of two the least", x.order(-1), 4);
        x.weighs(4, 98);
        check.due("the last", x.order(-1), 6);
        check.due("the last in order", x.order(6), 6);
    }

    private static void orderOfLeft() {
        GuestWeighsLess x = Check.told("b03;g0099;g4010;g0001;g4010;d01;");
        check.due("bishops are in", x.count(5), 10);
        check.due("first", x.order(0), 1);
        check.due("second", x.order(1), 3);
        check.due("no third", x.order(2), -4);
        check.due("the heaviest", x.order(-1), 1);
        GuestWeighsLess light = Check.told("g4000;");
        check.due("one of weight 0", light.order(-1), 0);
        check.due("one of weight 0", light.order(0), 0);
        check.due("no other", light.order(1), -4);
    }

    private static void firstOfSeven() {
        GuestWeighsLess x = Check.told("b31;" + SEVEN_BISHOPS);
        check.due("all come behind 9 days, if ever", x.leaves(-1), -4);
        x.weighs(6, 20);
        check.due("the last one", x.leaves(-1), 6);
        check.due("behind 9 days", x.leaves(6), 9);
        x.weighs(3, 20);
        check.due("of two the least", x.leaves(-1), 3);
    }
}
