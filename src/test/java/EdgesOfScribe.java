/** Boundary cases of what is SEEN, of THE SCRIBE and THE NEXT MORNING: promises 26 to 29. */
final class EdgesOfScribe {
    /** Nobody writes but the scribe. */
    private static final String QUIET = "place 0;person 9 0;person 9 0;person 9 0;";
    /** By the masters 2 is written on day 0, 0 on day 1, 1 on day 2. */
    private static final String THREE = "master 10;place 9;place 0;sea;way 0 1 2;way 1 2 60;"
        + "person 50 0;person 5 1;person 90 2;";

    private EdgesOfScribe() {
    }

    static void all() {
        seeing();
        seeingIsRefused();
        forgetting();
        seenDays();
        behindTheLastMorning();
        pairs();
        nineMore();
        first();
        without();
        scribesLastDays();
        nextMorning();
        mornings();
    }

    private static void seeing() {
        Edge.says(Edge.TERMS, "SEEN (at most 8):");
        Edge.says(26, "SEEN: how much is.");
        WhiteBoard x = Check.told(THREE);
        for (int many = 1; many <= 8; many++) {
            Edge.due("the same again and again", x.see(0, 29, true), many);
            Edge.due("seen", x.count(12), many);
        }
        Edge.due("it is no act", x.count(11), 0);
    }

    private static void seeingIsRefused() {
        Edge.says(26, "NONE (STATUS 2): there are 8, not 0 to 29.");
        WhiteBoard x = Check.told(THREE);
        Edge.due("0", x.see(0, 0, true), 1);
        Edge.due("29", x.see(2, 29, false), 2);
        for (int i : new int[] {-1, 30, Integer.MIN_VALUE, Integer.MAX_VALUE}) {
            Edge.refused("i " + i, x, 2, () -> Edge.due("i " + i, x.see(0, i, true), -1));
        }
        for (int many = 3; many <= 8; many++) {
            x.see(1, many, true);
        }
        Edge.refused("a ninth", x, 2, () -> Edge.due("a ninth", x.see(0, 0, true), -1));
        Edge.refused("a ninth, 30", x, 2, () -> Edge.due("a ninth, 30", x.see(0, 30, true), -1));
        Edge.says(26, "NoSuchElementException (ahead): no such PERSON.");
        Edge.refused("no such one", x, WhiteBoard.NONE, () -> Edge.noOther("a ninth of", 3, p -> x.see(p, 0, true)));
        x.forget();
        Edge.refused("no such one", x, WhiteBoard.NONE, () -> Edge.noOther("30 of", 3, p -> x.see(p, 30, true)));
    }

    private static void forgetting() {
        Edge.says(27, "All that is SEEN is forgotten.");
        WhiteBoard x = Check.told(THREE);
        for (int i = 0; i < 8; i++) {
            x.see(2, 0, false);
        }
        Edge.due("not so", x.scribe(2), 0);
        x.forget();
        Edge.due("nothing is seen", x.count(12), 0);
        Edge.due("all of nothing is so", x.scribe(2), 1);
        Edge.due("another one", x.see(2, 0, true), 1);
        x.forget();
        x.forget();
        Edge.due("nothing to forget", x.count(12), 0);
        Edge.due("it is no act", x.undo(), -1);
    }

    private static int isSo(String text, int today, int person, int i, boolean listed) {
        WhiteBoard x = Check.told(text);
        Edge.toDay(x, today);
        x.see(person, i, listed);
        return x.scribe(2);
    }

    private static void seenDays() {
        Edge.says(Edge.TERMS, "that one is on THE LIST at the end of the MORNING of the i-th DAY from that on which it is asked (i alone is kept; 0 "
            + "on, 29 at most;");
        Edge.row("2 is on it at the end of this morning: seen to be", new int[] {0, 1}, i -> isSo(THREE, 0, 2, 0, i == 1));
        Edge.row("0 isn't: seen to be", new int[] {1, 0}, i -> isSo(THREE, 0, 0, 0, i == 1));
        Edge.row("1 by the morning", new int[] {0, 0, 1, 1}, i -> isSo(THREE, 0, 1, i, true));
        Edge.row("1 on day 1 by the morning", new int[] {0, 1, 1}, i -> isSo(THREE, 1, 1, i, true));
        String thirtieth = "master 1;place 0;person 9 0;writes day=29;";
        Edge.due("by the thirtieth morning", isSo(thirtieth, 0, 0, 29, true), 1);
        Edge.due("not by the one ahead", isSo(thirtieth, 0, 0, 28, true), 0);
        WhiteBoard x = Check.told(THREE);
        x.see(1, 1, true);
        Edge.due("asked on day 0", x.scribe(2), 0);
        x.mornings(1);
        Edge.due("asked on day 1: i alone is kept", x.scribe(2), 1);
        x.mornings(2);
        Edge.due("asked on day 3, on it", x.scribe(2), 1);
        x.strike(1);
        x.open(false);
        Edge.due("struck off", x.scribe(2), 0);
        WhiteBoard both = Check.told(THREE);
        both.see(2, 0, true);
        both.see(2, 0, false);
        Edge.due("it can't be both", both.scribe(2), 0);
        Edge.due("by nobody", both.scribe(0), 0);
    }

    private static void behindTheLastMorning() {
        Edge.says(Edge.TERMS, "where there is no such MORNING any more, behind the last one), or isn't.");
        String last = "master 1;place 0;person 9 0;writes 58<day;";
        Edge.row("59 is the morning of day 59, and behind the last one", new int[] {0, 1, 1}, i -> isSo(last, 58, 0, i, true));
        Edge.due("29 from day 58", isSo(last, 58, 0, 29, true), 1);
        Edge.due("29 from day 31, of day 60", isSo(last, 31, 0, 29, true), 1);
        Edge.due("28 from day 31, of day 59", isSo(last, 31, 0, 28, true), 1);
        Edge.due("27 from day 31, of day 58", isSo(last, 31, 0, 27, true), 0);
        Edge.row("on day 60, as it is", new int[] {1, 1}, i -> isSo(last, 60, 0, i, true));
        String never = "master 1;place 0;person 9 0;writes 59<day;";
        Edge.row("on day 60, not on it", new int[] {0, 0}, i -> isSo(never, 60, 0, i, true));
    }

    private static void pairs() {
        Edge.says(Edge.TERMS, "THE SCRIBE: PEOPLE and DAYS (this one, and 9 more) by one of which, the name being put in by the scribe ahead of that "
            + "MORNING (there is one, and the name isn't on THE LIST then), all SEEN would be so: how many;");
        Edge.says(28, "THE SCRIBE: how many (what 0),");
        WhiteBoard x = Check.told(THREE);
        Edge.due("nothing is seen: 2 on day 0, 0 on days 0 and 1, 1 on days 0 to 2", x.scribe(0), 6);
        x.see(1, 0, true);
        Edge.due("1 on day 0", x.scribe(0), 1);
        x.see(1, 1, false);
        Edge.due("who is on it stays", x.scribe(0), 0);
        WhiteBoard quiet = Check.told(QUIET);
        Edge.due("three by ten", quiet.scribe(0), 30);
        quiet.write(1);
        Edge.due("not who is on it", quiet.scribe(0), 20);
        quiet.see(0, 4, true);
        quiet.see(0, 3, false);
        Edge.due("0 on day 4 alone", quiet.scribe(0), 1);
        quiet.forget();
        quiet.open(false);
        Edge.due("the list may be closed", quiet.scribe(0), 20);
        WhiteBoard away = Check.told("sea;person 9 0;");
        Edge.due("who is away, too", away.scribe(0), 10);
        WhiteBoard dead = Check.told("place 9;person 9 0;person 0 0;");
        dead.write(0);
        dead.mornings(2);
        Edge.due("not who is dead", dead.scribe(0), 10);
        WhiteBoard kin = Check.told("master 1;place 0;person 1 0;person 1 0;kin 0 1;writes kin;");
        kin.see(1, 3, true);
        kin.see(1, 2, false);
        Edge.row("0 on day 3 brings 1; 1 on day 3: ", new int[] {2, 3}, kin::scribe);
    }

    private static void nineMore() {
        Edge.says(Edge.TERMS, "(this one, and 9 more)");
        for (int i : new int[] {0, 1, 8, 9, 10, 29}) {
            WhiteBoard x = Check.told("place 0;person 9 0;");
            x.see(0, i, true);
            Edge.due("on it at the end of " + i, x.scribe(0), Math.min(10, i + 1));
        }
        for (int i : new int[] {8, 9, 10}) {
            WhiteBoard x = Check.told("place 0;person 9 0;");
            x.see(0, i, false);
            Edge.due("not on it at the end of " + i, x.scribe(0), 9 - i > 0 ? 9 - i : 0);
        }
    }

    private static void first() {
        Edge.says(Edge.TERMS, "the first (100 by who, and the DAY from now, 0 on);");
        Edge.says(28, "the first (1; NONE: none),");
        WhiteBoard x = Check.told("place 0;" + "person 9 0;".repeat(9));
        Edge.due("0 on this day", x.scribe(1), 0);
        x.see(0, 29, false);
        Edge.due("1 on this day", x.scribe(1), 100);
        for (int p = 1; p < 8; p++) {
            x.forget();
            x.see(p, 29, true);
            x.see(p, 6, false);
            Edge.due(p + " from day 7 on", x.scribe(1), 100 * p + 7);
        }
        x.forget();
        x.see(8, 8, false);
        x.see(8, 9, true);
        Edge.row("the last one", new int[] {1, 809}, x::scribe);
        x.mornings(4);
        Edge.row("from now", new int[] {1, 809}, x::scribe);
        x.see(8, 9, false);
        Edge.row("none", new int[] {0, -1}, x::scribe);
        WhiteBoard mixed = Check.told(QUIET);
        mixed.see(2, 0, false);
        mixed.see(0, 4, false);
        Edge.due("by who, then by day: 0 on day 5 ahead of 1 on day 0", mixed.scribe(1), 5);
    }

    private static void without() {
        Edge.says(Edge.TERMS, "whether it is so without (1).");
        Edge.says(28, "whether without (2).");
        WhiteBoard x = Check.told(THREE);
        Edge.due("nothing is seen", x.scribe(2), 1);
        x.see(0, 1, true);
        Edge.due("so", x.scribe(2), 1);
        x.see(1, 2, true);
        Edge.due("both are so", x.scribe(2), 1);
        x.see(2, 0, false);
        Edge.due("the third one isn't", x.scribe(2), 0);
        Edge.says(28, "NoSuchElementException: another what.");
        Edge.noOther("what", 3, x::scribe);
    }

    private static void scribesLastDays() {
        Edge.says(Edge.TERMS, "(there is one, and the name isn't on THE LIST then)");
        for (int today : new int[] {50, 51, 58, 59, 60}) {
            WhiteBoard x = Check.told("place 0;person 9 0;");
            Edge.toDay(x, today);
            Edge.due("mornings from day " + today, x.scribe(0), Math.min(10, 60 - today));
            Edge.due("the first", x.scribe(1), today == 60 ? -1 : 0);
        }
        WhiteBoard last = Check.told("place 0;person 9 0;");
        Edge.toDay(last, 59);
        last.see(0, 29, true);
        Edge.row("in the last morning", new int[] {1, 0, 0}, last::scribe);
        last.mornings(1);
        Edge.row("there is none any more", new int[] {0, -1, 0}, last::scribe);
        last.write(0);
        Edge.row("written by hand", new int[] {0, -1, 1}, last::scribe);
        Edge.row("nobody to write", new int[] {0, -1, 1}, new WhiteBoard()::scribe);
    }

    private static void nextMorning() {
        Edge.says(Edge.TERMS, "THE NEXT MORNING: that (0 to 29 from now; of like ones the first) at whose end THE LIST by these would be most unlike: "
            + "how many; none without any.");
        Edge.says(29, "THE NEXT MORNING (what 0; NONE), how many (1; 0: none).");
        WhiteBoard x = Check.told(QUIET);
        Edge.row("each of three, and none yet", new int[] {0, 4}, x::tells);
        x.see(0, 29, true);
        Edge.row("0, or not yet", new int[] {0, 2}, x::tells);
        x.see(0, 5, true);
        x.see(0, 4, false);
        Edge.row("one alone", new int[] {0, 1}, x::tells);
        x.see(0, 3, true);
        Edge.row("none", new int[] {-1, 0}, x::tells);
        x.forget();
        x.see(0, 2, false);
        x.see(1, 2, false);
        x.see(2, 2, false);
        Edge.row("nobody up to morning 2", new int[] {3, 4}, x::tells);
        x.mornings(5);
        Edge.row("from now", new int[] {3, 4}, x::tells);
        WhiteBoard off = Check.told("master 1;place 0;person 9 0;person 8 0;person 7 0;");
        Edge.row("0, 01 or 02, two pairs each", new int[] {0, 3}, off::tells);
        WhiteBoard none = Check.told("sea;");
        Edge.row("nobody to write", new int[] {-1, 0}, none::tells);
        Edge.says(29, "NoSuchElementException: another what.");
        Edge.noOther("what", 2, x::tells);
    }

    /** By the day on which 0 is put in, it is sold ahead of 1, between 1 and 2, or behind them: three debts tell one of three names. */
    private static void mornings() {
        Edge.says(Edge.TERMS, "(0 to 29 from now; of like ones the first)");
        for (int day = 26; day <= 30; day++) {
            WhiteBoard x = Check.told("master 999;place 0;person 0 0;person 50 0;person 51 0;person 1 0;person 2 0;person 3 0;"
                + "writes (day=3)*(goods=50) or (day=6)*(goods=51) or (day=" + day
                + ")*((debt=914)*(goods=1)+(debt=909)*(goods=2)+(debt=904)*(goods=3));");
            x.see(0, 20, true);
            x.see(0, 9, true);
            Edge.due("ten pairs", x.scribe(0), 10);
            // Behind day 29 nothing is more unlike than whether 0 is put in ahead of 1 and 2.
            Edge.due("most unlike by morning " + day, x.tells(0), day < 30 ? day : 0);
            Edge.due("how many by morning " + day, x.tells(1), day < 30 ? 3 : 2);
        }
        WhiteBoard last = Check.told(QUIET);
        Edge.toDay(last, 59);
        Edge.row("in the last morning", new int[] {0, 3}, last::tells);
        last.mornings(1);
        Edge.row("no morning", new int[] {-1, 0}, last::tells);
        WhiteBoard second = Check.told(QUIET);
        Edge.toDay(second, 58);
        second.see(0, 0, false);
        second.see(1, 0, false);
        second.see(2, 0, false);
        Edge.row("in the last of two", new int[] {1, 3}, second::tells);
    }
}
