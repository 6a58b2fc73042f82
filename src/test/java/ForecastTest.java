/** Promises 16 to 20, 24, 25, 35 to 38: what comes, if only mornings go by. */
public final class ForecastTest {
    private static final String THREE = "master 10;place 9;place 0;sea;way 0 1 2;way 1 2 60;"
        + "person 50 0;person 5 1;person 90 2;";

    public static void main(String[] args) {
        three();
        nothingChanges();
        horizon();
        listed();
        instead();
        closing();
        richest();
        worst();
        idle();
        stays();
        lastDay();
        wrongCalls();
        Check.end("ForecastTest");
    }

    private static void row(String what, int[] due, java.util.function.IntUnaryOperator call) {
        for (int i = 0; i < due.length; i++) {
            Check.due(what + " " + i, call.applyAsInt(i), due[i]);
        }
    }

    private static void three() {
        WhiteBoard x = Check.told(THREE);
        row("when, the day,", new int[] {1, 2, 0}, i -> x.when(i, 0));
        row("when, by whom,", new int[] {0, 0, 0}, i -> x.when(i, 1));
        row("found", new int[] {2, 12, -1}, x::found);
        row("next", new int[] {2, 0, 1, -1, -1}, x::next);
        Check.due("next(most)", x.next(Integer.MAX_VALUE), -1);
        row("owes", new int[] {10, 10, 10, 0, 0}, i -> x.owes(0, i));
        row("instead", new int[] {1, -1, 0}, x::instead);
        row("close", new int[] {1, 2, 30, 30, 30, 30, 30, 30, 30, 30}, x::close);
        Check.due("spared", x.spared(), 3);
        Check.due("richest", x.richest(), 0);
        row("worst", new int[] {2, 1}, x::worst);
        Check.due("idle", x.idle(), 3);
        row("stay of 0 at", new int[] {2, 11, -1}, i -> x.stay(0, i));
        row("stay of 2, who is away, at", new int[] {1, 10, -1}, i -> x.stay(2, i));
    }

    private static void nothingChanges() {
        WhiteBoard x = Check.told(THREE);
        three();
        x.spared();
        x.close(0);
        x.scribe(0);
        x.lists(1, 60, 0);
        for (int what = 4; what <= 12; what++) {
            Check.due("questions change nothing: " + what, x.count(what), what == 7 ? 4 : what == 9 ? 1 : 0);
        }
        Check.due("the debt stays", x.master(0, 0), 10);
    }

    /** Thirty mornings are those of days 0 to 29. */
    private static void horizon() {
        WhiteBoard x = Check.told("master 9;place 0;person 1 0;person 1 0;person 1 0;writes (day=19)+(day=20)+(day=30);");
        row("when", new int[] {19, 20, -1}, i -> x.when(i, 0));
        row("found", new int[] {29, -1, -1}, x::found);
        row("owes behind 30", new int[] {9}, i -> x.owes(i, 29));
        Check.due("owes(0, 30)", x.owes(0, 30), 8);
        Check.due("stay where it is found on day 29", x.stay(0, 0), 29);
        Check.due("stay where it would be found on day 30", x.stay(1, 0), -1);
        Check.due("close(0): written from day 20 on, not found in time", x.close(0), 19);
        Check.due("close(1)", x.close(1), 30);
        x.mornings(1);
        row("a day later: when", new int[] {19, 20, 30}, i -> x.when(i, 0));
        row("a day later: found", new int[] {29, 30, -1}, x::found);
        Check.due("a day later: close(1)", x.close(1), 20);
        Check.due("a day later: close(2)", x.close(2), 31);
    }

    private static void listed() {
        WhiteBoard x = Check.told(THREE);
        x.write(1);
        Check.due("as it was: the day", x.when(1, 0), 0);
        Check.due("as it was: the scribe", x.when(1, 1), -2);
        Check.due("found by the scribe's day", x.found(1), 10);
        Check.due("instead of one on the list", x.instead(1), -1);
        x.mornings(3);
        Check.due("dead: when", x.when(0, 0), 1);
        Check.due("dead: found", x.found(0), -1);
        Check.due("dead: stay", x.stay(0, 0), -1);
        Check.due("none come", x.next(0), -1);
        x.strike(1);
        x.open(false);
        Check.due("a closed list", x.when(1, 0), -1);
        Check.due("a closed list: by whom", x.when(1, 1), -1);
        Check.due("a closed list: spared", x.spared(), 0);
        Check.due("a closed list: close(0)", x.close(0), -1);
        Check.due("a closed list: close(1)", x.close(1), 33);
    }

    private static void instead() {
        WhiteBoard x = Check.told("master 1;master 1;place 1;person 9 0;person 8 0;person 7 0;person 0 0;"
            + "writes goods*(listed<3);");
        row("next", new int[] {0, 1, 2, -1}, x::next);
        row("instead of", new int[] {1, 2, -1, -1}, x::instead);
        WhiteBoard y = Check.told("master 1;place 1;person 9 0;person 8 0;person 7 0;writes goods*(listed<2);");
        row("two names", new int[] {0, 1, -1}, y::next);
        row("instead of one of two", new int[] {1, 2, -1}, y::instead);
    }

    private static void closing() {
        WhiteBoard x = Check.told("master 1;place 9;person 9 0;person 8 0;");
        x.write(0);
        Check.due("the scribe's name is found all the same", x.close(0), -1);
        Check.due("close(1) on the first day", x.close(1), 0);
        Check.due("spared but for the scribe's", x.spared(), 2);
        x.mornings(2);
        Check.due("those who are dead already count", x.close(0), -1);
        Check.due("close(9)", x.close(9), 32);
        x.mornings(20);
        x.mornings(20);
        Check.due("60 at most", x.close(9), 60);
    }

    private static void richest() {
        WhiteBoard x = Check.told("master 0;master 0;place 9;person 10 0;person 11 0;");
        Check.due("10 are more than 9", x.richest(), 1);
        WhiteBoard y = Check.told("master 0;master 0;place 9;person 10 0;person 12 0;");
        Check.due("of like ones the least", y.richest(), 0);
        WhiteBoard z = Check.told("master 5;place 9;person 10 0;writes 0;");
        z.write(0);
        Check.due("the scribe's sales are no master's", z.richest(), -1);
        WhiteBoard past = Check.told("master 50;place 9;person 10 0;");
        past.mornings(2);
        Check.due("from now on", past.richest(), -1);
        WhiteBoard little = Check.told("master 50;master 0;place 9;person 1 0;");
        Check.due("1 is more than nothing", little.richest(), 0);
        WhiteBoard nothing = Check.told("master 50;place 9;person 0 0;writes 1;");
        Check.due("nothing is none", nothing.richest(), -1);
        WhiteBoard own = Check.told("master 50;master 0;place 9;person 10 0;");
        own.mornings(1);
        Check.due("a name that stands already", own.richest(), 0);
    }

    private static void worst() {
        WhiteBoard x = Check.told("master 0;master 0;place 9;person 3 0;person 2 0;person 1 0;");
        row("two in one morning", new int[] {1, 2}, x::worst);
        x.mornings(2);
        row("the first of like ones", new int[] {2, 1}, x::worst);
        x.mornings(1);
        row("nobody is left", new int[] {-1, 0}, x::worst);
        WhiteBoard y = Check.told("master 0;place 9;place 5;person 3 0;person 2 1;");
        row("1 and 1", new int[] {1, 1}, y::worst);
    }

    private static void idle() {
        WhiteBoard x = Check.told("master 1;place 0;person 1 0;person 1 0;writes day=0 or 2<day;");
        Check.due("the second morning", x.idle(), 1);
        x.mornings(2);
        Check.due("the third morning", x.idle(), 2);
        x.mornings(1);
        Check.due("none is left behind the fourth one", x.idle(), 4);
        x.undo();
        x.open(false);
        Check.due("closed", x.idle(), 2);
    }

    private static void stays() {
        WhiteBoard x = Check.told("master 1;place 3;place 0;sea;person 9 0;person 0 2;");
        row("stay at", new int[] {7, 10, -1}, i -> x.stay(0, i));
        row("never written, at", new int[] {-1, -1, -1}, i -> x.stay(1, i));
        x.mornings(5);
        row("later, at", new int[] {7, 10, -1}, i -> x.stay(0, i));
        x.write(1);
        row("away now, at", new int[] {12, 15, -1}, i -> x.stay(1, i));
        x.mornings(2);
        Check.due("where the days are over already", x.stay(0, 0), 7);
        Check.noSuch("stay(2, 0)", () -> x.stay(2, 0));
        Check.noSuch("stay(-1, 0)", () -> x.stay(-1, 0));
        Check.noSuch("stay(0, 3)", () -> x.stay(0, 3));
        Check.noSuch("stay(0, -1)", () -> x.stay(0, -1));
    }

    private static void lastDay() {
        WhiteBoard x = Check.told("master 100;place 0;person 9 0;person 8 0;writes goods*(day=50 or day=49);");
        x.mornings(20);
        x.mornings(20);
        row("to the last day: found", new int[] {59, -1}, x::found);
        row("owes behind the last day", new int[] {91}, i -> x.owes(0, 30));
        Check.due("close(0)", x.close(0), 49);
        Check.due("close(1)", x.close(1), 60);
        Check.due("stay to day 59", x.stay(0, 0), 59);
        Check.due("stay on day 60", x.stay(1, 0), -1);
        x.mornings(20);
        row("no morning: when", new int[] {49, 50}, i -> x.when(i, 0));
        row("no morning: worst", new int[] {-1, 0}, x::worst);
        Check.due("no morning: idle", x.idle(), -1);
        Check.due("no morning: next", x.next(0), -1);
        Check.due("no morning: found", x.found(1), -1);
        Check.due("no morning: close(1)", x.close(1), 60);
        Check.due("no morning: close(0)", x.close(0), -1);
        Check.due("no morning: spared", x.spared(), 0);
        Check.due("no morning: richest", x.richest(), -1);
        Check.due("no morning: owes", x.owes(0, 30), 91);
        Check.due("no morning: stay", x.stay(1, 0), -1);
    }

    private static void wrongCalls() {
        WhiteBoard x = Check.told(THREE);
        Check.noSuch("when(3, 0)", () -> x.when(3, 0));
        Check.noSuch("when(-1, 0)", () -> x.when(-1, 0));
        Check.noSuch("when(0, 2)", () -> x.when(0, 2));
        Check.noSuch("when(0, -1)", () -> x.when(0, -1));
        Check.noSuch("found(3)", () -> x.found(3));
        Check.noSuch("found(-1)", () -> x.found(-1));
        Check.illegal("next(-1)", () -> x.next(-1));
        Check.noSuch("owes(1, 0)", () -> x.owes(1, 0));
        Check.noSuch("owes(1, 31)", () -> x.owes(1, 31));
        Check.illegal("owes(0, 31)", () -> x.owes(0, 31));
        Check.illegal("owes(0, -1)", () -> x.owes(0, -1));
        Check.noSuch("instead(3)", () -> x.instead(3));
        Check.illegal("close(-1)", () -> x.close(-1));
        Check.illegal("close(10)", () -> x.close(10));
        Check.noSuch("worst(2)", () -> x.worst(2));
        Check.noSuch("worst(-1)", () -> x.worst(-1));
    }
}
