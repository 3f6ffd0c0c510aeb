/** Counts the answers that are not as due, and helps to put texts and rows on shelves. */
final class Check {
    private int wrong = 0;
    private int looked = 0;

    void due(String call, long got, long want) {
        looked++;
        if (got != want) {
            wrong++;
            System.out.println(call + " answered " + got + ", due is " + want);
        }
    }

    /** want: the exception's simple name. */
    void dueElementThrows(GuestWeighsLess x, int d, int i, String want) {
        String got;
        try {
            got = "" + x.element(d, i);
        } catch (RuntimeException e) {
            got = e.getClass().getSimpleName();
        }
        looked++;
        if (!got.equals(want)) {
            wrong++;
            System.out.println("element(" + d + ", " + i + ") answered " + got + ", due is " + want);
        }
    }

    void dueTrue(String what, boolean holds) {
        due(what, holds ? 1 : 0, 1);
    }

    /** Puts numbers as a row of a sort on a shelf. */
    static void put(GuestWeighsLess x, int d, int sort, int... numbers) {
        x.row(d, sort, numbers.length);
        for (int i = 0; i < numbers.length; i++) {
            x.put(d, i, numbers[i]);
        }
    }

    /** Puts a text on shelf 7 and reads it. */
    static int read(GuestWeighsLess x, String text) {
        x.row(7, 0, text.length());
        for (int i = 0; i < text.length(); i++) {
            x.put(7, i, text.charAt(i));
        }
        return x.house(7);
    }

    /** A new house told by texts (each 100 bytes at most). */
    static GuestWeighsLess told(String... texts) {
        GuestWeighsLess x = new GuestWeighsLess();
        for (String text : texts) {
            int answer = read(x, text);
            if (answer < 0) {
                throw new IllegalStateException("the test's text has a fault: " + text + " " + answer);
            }
        }
        return x;
    }

    void end() {
        System.out.println(looked + " answers looked at, " + wrong + " not as due");
        if (wrong != 0) {
            System.exit(1);
        }
    }
}
