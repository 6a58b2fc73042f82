import java.io.IOException;
import java.io.UncheckedIOException;
import java.nio.charset.StandardCharsets;
import java.nio.file.Files;
import java.nio.file.Path;
import java.util.Arrays;

/**
 * Boundary cases in the document's own words: what is quoted must stand in the document, each check behind it is
 * told by the quote, and at the end every word of the document must have been quoted by some test.
 */
final class Edge {
    /** Stands, where a promise's number would, for the terms ahead of the promises. */
    static final int TERMS = 0;
    static final int PROMISES = 42;
    /** One more than there is and one less, and the ends of an int. */
    static final int[] NEVER = {-1, -2, Integer.MIN_VALUE, Integer.MAX_VALUE};

    private static final Path DOCUMENT = Path.of("../shared/DOC.md");
    /** Without the document there is nothing to compare quotes with; all else is checked all the same. */
    private static final boolean HAS_DOCUMENT = Files.isReadable(DOCUMENT);
    private static final String[] SECTIONS = sections();
    private static final boolean[][] QUOTED = new boolean[SECTIONS.length][];
    private static String quote = "";

    private Edge() {
    }

    /** The terms from the first one on, then each promise behind its signature; blanks and ends of lines are alike. */
    private static String[] sections() {
        String[] parts = document().split("## (?=Promise \\d+: |Terms|Not promised)");
        String[] all = new String[PROMISES + 1];
        Arrays.fill(all, "");
        for (String part : parts) {
            if (part.startsWith("Terms")) {
                all[TERMS] = part.substring("Terms".length()).replaceAll("```(text)?|==== \\d\\.", " ").replaceAll("\\s+", " ");
            } else if (part.startsWith("Promise ")) {
                int number = Integer.parseInt(part.substring(8, part.indexOf(':')));
                all[number] = part.substring(part.indexOf("`: ") + 3).replaceAll("\\s+", " ");
            }
        }
        return all;
    }

    private static String document() {
        if (!HAS_DOCUMENT) {
            System.out.println("there is no " + DOCUMENT + ": no quote is compared with it");
            return "";
        }
        try {
            return Files.readString(DOCUMENT, StandardCharsets.UTF_8);
        } catch (IOException e) {
            throw new UncheckedIOException(e);
        }
    }

    /** The checks that follow are of these words of the document. */
    static void says(int promise, String words) {
        quote = words;
        if (!HAS_DOCUMENT) {
            return;
        }
        String section = SECTIONS[promise];
        int at = section.indexOf(words);
        Check.due("promise " + promise + " says: " + words, at >= 0, true);
        if (QUOTED[promise] == null) {
            QUOTED[promise] = new boolean[section.length()];
        }
        for (; at >= 0; at = section.indexOf(words, at + 1)) {
            Arrays.fill(QUOTED[promise], at, at + words.length(), true);
        }
    }

    /** Every word of the terms and promises was quoted. */
    static void allIsQuoted() {
        for (int promise = 0; promise <= PROMISES && HAS_DOCUMENT; promise++) {
            StringBuilder left = new StringBuilder();
            String section = SECTIONS[promise];
            Check.due("promise " + promise + " has words", section.isBlank(), false);
            for (int i = 0; i < section.length(); i++) {
                boolean isQuoted = QUOTED[promise] != null && QUOTED[promise][i];
                left.append(isQuoted ? '|' : section.charAt(i));
            }
            String words = left.toString().replaceAll("[^|A-Za-z0-9]+", " ").replaceAll("[| ]*\\|[| ]*", " | ");
            Check.due("promise " + promise + " without a test: " + words, words.matches("[| ]*"), true);
        }
    }

    static void due(String what, long got, long want) {
        Check.due(label(what), got, want);
    }

    static void due(String what, boolean got, boolean want) {
        Check.due(label(what), got, want);
    }

    static void row(String what, int[] due, java.util.function.IntUnaryOperator call) {
        for (int i = 0; i < due.length; i++) {
            due(what + " " + i, call.applyAsInt(i), due[i]);
        }
    }

    static void noSuch(String what, Runnable call) {
        Check.noSuch(label(what), call);
    }

    static void illegal(String what, Runnable call) {
        Check.illegal(label(what), call);
    }

    /** No number but 0 to many - 1 is one. */
    static void noOther(String what, int many, java.util.function.IntConsumer call) {
        for (int i : NEVER) {
            noSuch(what + " " + i, () -> call.accept(i));
        }
        noSuch(what + " " + many, () -> call.accept(many));
        noSuch(what + " " + (many + 1), () -> call.accept(many + 1));
    }

    private static String label(String what) {
        return "\"" + quote + "\": " + what;
    }

    /** All that can be read of an object, but STATUS and the place of a FAULT. */
    static String state(WhiteBoard x) {
        StringBuilder all = new StringBuilder();
        for (int what = 0; what <= 13; what++) {
            all.append(x.count(what)).append(' ');
        }
        for (int i = 0; i < x.count(0) * 4; i++) {
            all.append(x.master(i / 4, i % 4)).append(' ');
        }
        for (int i = 0; i < x.count(1) * 3; i++) {
            all.append(x.place(i / 3, i % 3)).append(' ');
        }
        for (int i = 0; i < x.count(3) * 6; i++) {
            all.append(x.person(i / 6, i % 6)).append(' ');
        }
        return all.toString();
    }

    /** The call changes nothing but this STATUS, which is one more; NONE: none is. */
    static void refused(String what, WhiteBoard x, int status, Runnable call) {
        String before = state(x);
        int[] were = {x.count(14), x.count(15), x.count(16)};
        call.run();
        String after = state(x);
        due(what + " changes nothing: " + before + "to " + after, before.equals(after), true);
        for (int i = 0; i < 3; i++) {
            due(what + ", STATUS " + i, x.count(14 + i), were[i] + (i == status ? 1 : 0));
        }
    }

    /** A text's FAULT and its place; NONE: it is a BOARD. */
    static void fault(String text, int fault, int place) {
        WhiteBoard x = new WhiteBoard();
        due("board of \"" + text + "\"", Check.tell(x, text), fault);
        due("place of the FAULT of \"" + text + "\"", x.fault(), place);
    }

    static void stands(String text) {
        fault(text, 0, WhiteBoard.NONE);
    }

    static void toDay(WhiteBoard x, int day) {
        while (x.count(4) < day) {
            x.mornings(Math.min(20, day - x.count(4)));
        }
    }
}
