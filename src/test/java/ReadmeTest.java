/** The examples of README.md answer as it says. */
public final class ReadmeTest {
    private static final Check check = new Check();

    public static void main(String[] args) {
        first();
        byText();
        check.end();
    }

    private static void first() {
        GuestWeighsLess x = new GuestWeighsLess();
        check.due("keep", x.keep(3, 1, 4, 5), 0);
        check.due("comes", x.comes(3, 70), 0);
        check.due("entered", x.guest(0, 3), 80);
        check.due("table", x.table(0, 9), 23);
        check.due("leaves", x.leaves(0), 9);
        check.due("days", x.days(9), 1);
        check.due("left", x.guest(0, 6), 0);
        check.due("weight", x.guest(0, 2), 79);
    }

    private static void byText() {
        GuestWeighsLess x = new GuestWeighsLess();
        String text = "g4570;b09;d08;";
        check.due("row", x.row(0, 0, text.length()), 0);
        for (int i = 0; i < text.length(); i++) {
            check.due("put", x.put(0, i, text.charAt(i)), 0);
        }
        check.due("house", x.house(0), 3);
        check.due("weight", x.guest(0, 2), 78);
        check.due("row", x.row(1, 2, 2), 0);
        check.due("put", x.put(1, 0, 78), 0);
        check.due("put", x.put(1, 1, 79), 0);
        check.due("judge", x.judge(1), 1);
    }
}
