/** What each kind has by each FIGURE, BOARD and DANCE, 0 .. 9: RINGS, EATS, DANCES, SECRETS, STAYS, COST, FAILURE. */
public final class KindTablesTest {
    private static final Check check = new Check();

    private static final int[] NONE = {0, 0, 0, 0, 0, 0, 0, 0, 0, 0};
    private static final int[] ONE = {1, 1, 1, 1, 1, 1, 1, 1, 1, 1};
    private static final int[] SAME = {0, 1, 2, 3, 4, 5, 6, 7, 8, 9};
    private static final int[] HALF = {0, 0, 1, 1, 2, 2, 3, 3, 4, 4};
    private static final int[] HALF_AND_1 = {1, 1, 2, 2, 3, 3, 4, 4, 5, 5};
    private static final int[] ONE_MORE = {1, 2, 3, 4, 5, 6, 7, 8, 9, 10};
    private static final int[] ONE_LESS = {0, 0, 1, 2, 3, 4, 5, 6, 7, 8};
    private static final int[] TWICE = {0, 2, 4, 6, 8, 10, 12, 14, 16, 18};
    private static final int[] NINES = {9, 9, 9, 9, 9, 9, 9, 9, 9, 9};
    private static final int[] THREES = {3, 3, 3, 3, 3, 3, 3, 3, 3, 3};
    private static final int[] NO_FAILURE = {-15, -15, -15, -15, -15, -15, -15, -15, -15, -15};

    private static final int[][] RINGS = {NONE, SAME, NONE, HALF, TWICE, HALF_AND_1, NONE, SAME};
    private static final int[][] SECRETS = {ONE, HALF, NONE, ONE, HALF_AND_1, THREES, ONE, HALF};
    private static final int[][] STAYS = {NONE, NONE, SAME, NONE, NINES, NONE, SAME, NONE};
    /** By BOARD. */
    private static final int[][] EATS = {SAME, HALF, ONE_MORE, SAME, {2, 2, 3, 3, 4, 4, 5, 5, 6, 6}, TWICE, ONE_LESS, HALF};
    /** By DANCE, with FIGURE 0 and with FIGURE 9. */
    private static final int[][] DANCES_0 = {SAME, ONE, SAME, SAME, ONE, ONE_LESS, HALF, ONE_MORE};
    private static final int[][] DANCES_9 = {SAME, ONE, {3, 4, 5, 6, 7, 8, 9, 10, 11, 12}, SAME, ONE, ONE_LESS,
        {1, 2, 2, 3, 3, 4, 4, 5, 5, 6}, ONE_MORE};
    /** By FIGURE, DANCE 0. */
    private static final int[][] DANCES_BY_FIGURE = {NONE, ONE, {0, 0, 0, 1, 1, 1, 2, 2, 2, 3}, NONE, ONE, NONE,
        {0, 0, 0, 0, 0, 0, 1, 1, 1, 1}, ONE};
    private static final int[][] COSTS = {{2, 2, 2, 2, 2, 2, 2, 2, 2, 2}, {2, 3, 4, 5, 6, 7, 8, 9, 10, 11}, ONE,
        {5, 5, 5, 5, 5, 5, 5, 5, 5, 5}, {4, 6, 8, 10, 12, 14, 16, 18, 20, 22}, NONE, NONE, ONE_MORE};
    private static final int[] FIGURE = {-15, 1, 2, 3, 4, 5, 6, 7, 8, 9};
    private static final int[] HUNDRED_AND_FIGURE = {-15, 101, 102, 103, 104, 105, 106, 107, 108, 109};
    private static final int[][] FAILURES = {FIGURE, FIGURE, NO_FAILURE, HUNDRED_AND_FIGURE,
        {-15, 206, 208, 210, 212, 214, 216, 218, 220, 222}, HUNDRED_AND_FIGURE, NO_FAILURE, FIGURE};

    public static void main(String[] args) {
        for (int k = 0; k < 8; k++) {
            for (int n = 0; n <= 9; n++) {
                byFigure(k, n);
                byTable(k, n);
                stays(k, n);
                onShelf(k, n);
            }
        }
        heldEachTime();
        check.end();
    }

    private static GuestWeighsLess one(int board, int dance, int kind, int figure, int weight) {
        GuestWeighsLess x = new GuestWeighsLess();
        x.table(board, dance);
        x.keep(0, 1, kind, figure);
        x.comes(0, weight);
        return x;
    }

    private static void byFigure(int k, int figure) {
        String one = "kind " + k + " of figure " + figure;
        GuestWeighsLess x = one(0, 0, k, figure, 50);
        check.due("entered, " + one, x.guest(0, 3), 50 + RINGS[k][figure]);
        check.due("weight, " + one, x.guest(0, 2), 50);
        check.due("dances off, " + one, x.weightThen(0, 1), 50 + EATS[k][0] - DANCES_BY_FIGURE[k][figure]);
        check.due("a secret, " + one, x.tells(0), 50 - SECRETS[k][figure]);
        check.due("a secret of one of weight 0, " + one, one(0, 0, k, figure, 0).tells(0), 0);
        check.due("entered with 99, " + one, one(0, 0, k, figure, 99).guest(0, 3), 99 + RINGS[k][figure]);
        check.due("entered with 0, " + one, one(0, 0, k, figure, 0).guest(0, 3), RINGS[k][figure]);
    }

    private static void byTable(int k, int n) {
        check.due("eats, kind " + k + " by board " + n, one(n, 0, k, 0, 50).weightThen(0, 1),
            50 + EATS[k][n] - DANCES_0[k][0]);
        check.due("dances off, kind " + k + " by dance " + n, one(0, n, k, 0, 50).weightThen(0, 1),
            50 + EATS[k][0] - DANCES_0[k][n]);
        check.due("dances off, kind " + k + " of figure 9 by dance " + n, one(0, n, k, 9, 50).weightThen(0, 1),
            50 + EATS[k][0] - DANCES_9[k][n]);
    }

    /** One day too early he may not go, however light; on the day he may. */
    private static void stays(int k, int figure) {
        String one = "kind " + k + " of figure " + figure;
        int stay = STAYS[k][figure];
        GuestWeighsLess x = one(9, 0, k, figure, 30);
        x.days(1);
        x.comes(0, 30);
        x.weighs(1, 99);
        for (int day = 0; day < stay; day++) {
            x.weighs(1, 0);
            check.due("on day " + day + " he may not go, " + one, x.guest(1, 7), 0);
            x.weighs(1, 99);
            x.days(1);
        }
        check.due("he is in, " + one, x.guest(1, 6), 1);
        x.weighs(1, x.guest(1, 3) < 99 ? x.guest(1, 3) : 99);
        check.due("as heavy as he entered he may not, " + one, x.guest(1, 7), 0);
        x.weighs(1, x.guest(1, 3) - 1);
        check.due("one less and he may, " + one, x.guest(1, 7), 1);
        GuestWeighsLess y = one(0, 0, k, figure, 60);
        y.weighs(0, 1);
        check.due("leaves behind his stay, " + one, y.leaves(0), Math.max(1, stay));
    }

    private static void onShelf(int k, int figure) {
        GuestWeighsLess x = new GuestWeighsLess();
        x.keep(0, 1, k, figure);
        check.due("cost of kind " + k + " of figure " + figure, x.cost(0), COSTS[k][figure]);
        check.due("failure of kind " + k + " of figure " + figure, x.toss(0), FAILURES[k][figure]);
        check.due("it is there behind the failure", x.cost(0), COSTS[k][figure]);
    }

    /** 99 is held when they have eaten, 0 when they have danced. */
    private static void heldEachTime() {
        for (int k = 0; k < 8; k++) {
            check.due("99, then danced off, kind " + k, one(9, 5, k, 0, 99).weightThen(0, 1), 99 - DANCES_0[k][5]);
            GuestWeighsLess light = one(0, 9, k, 9, 0);
            check.due("0 is held, kind " + k, light.weightThen(0, 1), Math.max(0, EATS[k][0] - DANCES_9[k][9]));
        }
        check.due("just 99", one(4, 0, 0, 0, 95).weightThen(0, 1), 99);
        check.due("not 100", one(5, 0, 0, 0, 95).weightThen(0, 1), 99);
        check.due("99 of 100, then 3 off", one(5, 3, 0, 0, 95).weightThen(0, 1), 96);
        check.due("just 0", one(0, 5, 0, 0, 5).weightThen(0, 1), 0);
        check.due("not below", one(0, 6, 0, 0, 5).weightThen(0, 1), 0);
    }
}
