import java.util.NoSuchElementException;

/** What all tests share: due answers, due exceptions, and boards told by a text. */
final class Check {
    private static int wrong;
    private static int made;

    private Check() {
    }

    static void due(String what, long got, long want) {
        made++;
        if (got != want) {
            wrong++;
            System.out.println(what + " answered " + got + ", due is " + want);
        }
    }

    static void due(String what, boolean got, boolean want) {
        due(what, got ? 1 : 0, want ? 1 : 0);
    }

    static void noSuch(String what, Runnable call) {
        thrown(what, call, NoSuchElementException.class);
    }

    static void illegal(String what, Runnable call) {
        thrown(what, call, IllegalArgumentException.class);
    }

    private static void thrown(String what, Runnable call, Class<?> due) {
        made++;
        String got = "nothing";
        try {
            call.run();
        } catch (RuntimeException e) {
            got = e.getClass().getName();
        }
        if (!got.equals(due.getName())) {
            wrong++;
            System.out.println(what + " threw " + got + ", due is " + due.getName());
        }
    }

    /** Feeds a text, with blanks behind it up to whole calls of feed(). */
    static int feed(WhiteBoard x, String text) {
        int bytes = -2;
        for (int i = 0; i < text.length(); i += 20) {
            int[] five = new int[5];
            for (int k = 0; k < 20; k++) {
                int c = i + k < text.length() ? text.charAt(i + k) : ' ';
                five[k / 4] = five[k / 4] << 8 | c & 255;
            }
            bytes = x.feed(five[0], five[1], five[2], five[3], five[4]);
        }
        return bytes;
    }

    static int tell(WhiteBoard x, String text) {
        feed(x, text);
        return x.board(text.length());
    }

    static WhiteBoard told(String text) {
        WhiteBoard x = new WhiteBoard();
        due("board of " + text, tell(x, text), 0);
        return x;
    }

    /** A text's FAULT and its place; place NONE: there is none. */
    static void fault(String text, int fault, int place) {
        WhiteBoard x = new WhiteBoard();
        due("board of \"" + text + "\"", tell(x, text), fault);
        due("fault of \"" + text + "\"", x.fault(), place);
    }

    /** Ends a test's main. */
    static void end(String test) {
        System.out.println(test + ": " + made + " checks, " + wrong + " wrong");
        if (wrong != 0 || made == 0) {
            System.exit(1);
        }
    }
}
