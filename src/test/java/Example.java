/** The example of README.md. */
public final class Example {
    private static final String TEXT = "master 100; master 50; place 3; place 8; sea; way 0 1 9; way 1 2 5;\n"
        + "person 40 0; person 60 1; kin 0 1; friend 1 0; foe 0 1; writes goods + 30 * foe - 20 * friend - 10 * day;";

    public static void main(String[] args) {
        WhiteBoard x = new WhiteBoard();
        System.out.println("fault " + tell(x, TEXT) + ", people " + x.count(3));
        for (int person = 0; person < x.count(3); person++) {
            System.out.println("person " + person + ": written on day " + x.when(person, 0) + " by master "
                + x.when(person, 1) + ", found on day " + x.found(person) + ", out on day " + x.out(person));
        }
        System.out.println("after two mornings day " + x.mornings(2) + ", list " + x.count(5));
        System.out.println("person 1 goes by way 1 to place " + x.go(1, 1) + ", away " + x.count(7));
        System.out.println("struck off, was written by master " + x.strike(0) + ", acts " + x.count(11));
        System.out.println("undone, acts left " + x.undo() + ", list " + x.count(5));
        System.out.println("21 mornings at once answer " + x.mornings(21) + ", acts refused " + x.count(15));
        System.out.println("fault " + tell(x, "place 3; place 10;") + " at byte " + x.fault());
    }

    /** Twenty bytes a call, of each number the highest first; blanks fill the last call up. */
    private static int tell(WhiteBoard x, String text) {
        for (int i = 0; i < text.length(); i += 20) {
            x.feed(number(text, i), number(text, i + 4), number(text, i + 8), number(text, i + 12), number(text, i + 16));
        }
        return x.board(text.length());
    }

    private static int number(String text, int from) {
        int number = 0;
        for (int i = from; i < from + 4; i++) {
            number = number << 8 | (i < text.length() ? text.charAt(i) : ' ');
        }
        return number;
    }
}
