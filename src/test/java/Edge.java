/** Calls at the edges of their numbers, and what can be seen of an object ahead of a call and behind it. */
final class Edge {
    interface Maker {
        GuestWeighsLess make();
    }

    interface Call {
        long of(GuestWeighsLess x);
    }

    interface CallOf {
        long of(GuestWeighsLess x, int number);
    }

    static final int LEAST = Integer.MIN_VALUE;
    static final int MOST = Integer.MAX_VALUE;
    static final long REFUSED = 1000000001L;

    private final Check check;
    private final Maker maker;

    Edge(Check check, Maker maker) {
        this.check = check;
        this.maker = maker;
    }

    /**
     * A house that is no new one: guest 0 has LEFT, 1 and 2 are IN, an image that is not as it is now; shelf 0 holds
     * nothing, 1 a bishop of figure 5, 2 bytes, 3 shorts, 4 ints, 5 bytes, 6 and 7 nothing.
     */
    static GuestWeighsLess few() {
        GuestWeighsLess x = Check.told("b05;g0050;d01;g4560;g2340;b33;");
        x.image();
        Check.read(x, "t1;l1205;b21;");
        holdOnShelves(x);
        return x;
    }

    /** Seven are IN, of all kinds but the bishop; the shelves as those of few. */
    static GuestWeighsLess full() {
        GuestWeighsLess x = Check.told("b11;g0050;g1650;g2455;g3850;g0770;g5645;g6330;");
        x.image();
        Check.read(x, "t1;l0405;d01;");
        holdOnShelves(x);
        return x;
    }

    private static void holdOnShelves(GuestWeighsLess x) {
        x.keep(7, 0, 0, 0);
        x.keep(1, 1, 4, 5);
        Check.put(x, 2, 0, 1, -128, 0);
        Check.put(x, 3, 1, 50, -32768, 300);
        Check.put(x, 4, 2, 1, 0, -2147483648);
        Check.put(x, 5, 0, 7, 8);
    }

    /** All that the calls without an effect tell: numbers, guests, shelves. */
    static String look(GuestWeighsLess x) {
        StringBuilder seen = new StringBuilder();
        for (int what = 0; what <= 6; what++) {
            seen.append(x.count(what)).append(' ');
        }
        for (int g = 0; g < x.count(0); g++) {
            seen.append("/ ");
            for (int what = 0; what <= 6; what++) {
                seen.append(x.guest(g, what)).append(' ');
            }
        }
        for (int d = 0; d < 8; d++) {
            seen.append("; ").append(x.cost(d)).append(' ').append(x.toss(d)).append(elements(x, d));
        }
        return seen.toString();
    }

    private static String elements(GuestWeighsLess x, int d) {
        StringBuilder seen = new StringBuilder();
        try {
            for (int i = 0; i < 101; i++) {
                seen.append(' ').append(x.element(d, i));
            }
        } catch (IllegalStateException end) {
            seen.append(" end");
        }
        return seen.toString();
    }

    /** The call answers so, and changes nothing: neither what is there nor the image. */
    void still(String call, Call c, long want) {
        GuestWeighsLess x = maker.make();
        String before = look(x);
        check.due(call, c.of(x), want);
        check.dueTrue(call + " changes nothing", look(x).equals(before));
        check.dueTrue(call + " leaves the image", imageOf(x).equals(imageOf(maker.make())));
    }

    private static String imageOf(GuestWeighsLess x) {
        x.restore();
        return look(x);
    }

    /** The least and the most number are taken; the next ones and the farthest ones are refused. */
    void numbers(String call, int least, int most, long refusal, CallOf c) {
        taken(call, least, refusal, c);
        taken(call, most, refusal, c);
        still(call + " of " + (least - 1), x -> c.of(x, least - 1), refusal);
        still(call + " of " + (most + 1), x -> c.of(x, most + 1), refusal);
        still(call + " of the least int", x -> c.of(x, LEAST), refusal);
        still(call + " of the greatest int", x -> c.of(x, MOST), refusal);
    }

    private void taken(String call, int number, long refusal, CallOf c) {
        check.dueTrue(call + " of " + number + " is taken", c.of(maker.make(), number) != refusal);
    }
}
