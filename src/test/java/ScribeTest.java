/** Promises 26 to 29: what is SEEN, the scribe, the next morning that tells. */
public final class ScribeTest {
    /** By the masters 2 is written on day 0, 0 on day 1, 1 on day 2. */
    private static final String THREE = "master 10;place 9;place 0;sea;way 0 1 2;way 1 2 60;"
        + "person 50 0;person 5 1;person 90 2;";

    public static void main(String[] args) {
        seeing();
        pairs();
        relative();
        closed();
        telling();
        thirtiethMorning();
        lastDays();
        Check.end("ScribeTest");
    }

    private static void answers(String when, WhiteBoard x, int many, int first, int without, int morning, int unlike) {
        Check.due(when + ": scribe(0)", x.scribe(0), many);
        Check.due(when + ": scribe(1)", x.scribe(1), first);
        Check.due(when + ": scribe(2)", x.scribe(2), without);
        Check.due(when + ": tells(0)", x.tells(0), morning);
        Check.due(when + ": tells(1)", x.tells(1), unlike);
    }

    private static void seeing() {
        WhiteBoard x = Check.told(THREE);
        for (int i = 1; i <= 8; i++) {
            Check.due("see " + i, x.see(i % 3, i < 8 ? i : 29, true), i);
        }
        Check.due("a ninth", x.see(0, 0, true), -1);
        Check.due("STATUS 2", x.count(16), 1);
        Check.due("seen", x.count(12), 8);
        x.forget();
        Check.due("forgotten", x.count(12), 0);
        Check.due("30", x.see(0, 30, true), -1);
        Check.due("-1", x.see(0, -1, false), -1);
        Check.due("STATUS 2 again", x.count(16), 3);
        Check.due("0", x.see(0, 0, false), 1);
        Check.due("29", x.see(0, 29, true), 2);
        Check.due("no act", x.count(11), 0);
        Check.noSuch("see(3, 0, true)", () -> x.see(3, 0, true));
        Check.noSuch("see(-1, 30, true)", () -> x.see(-1, 30, true));
        Check.due("STATUS 2 stays", x.count(16), 3);
        Check.noSuch("scribe(3)", () -> x.scribe(3));
        Check.noSuch("scribe(-1)", () -> x.scribe(-1));
        Check.noSuch("tells(2)", () -> x.tells(2));
        Check.noSuch("tells(-1)", () -> x.tells(-1));
    }

    private static void pairs() {
        WhiteBoard x = Check.told(THREE);
        answers("nothing seen", x, 6, 0, 1, 0, 3);
        x.see(1, 0, true);
        answers("1 by day 0", x, 1, 100, 0, 0, 1);
        x.see(0, 0, false);
        answers("and not 0", x, 1, 100, 0, 0, 1);
        x.see(2, 0, false);
        answers("and not 2", x, 0, -1, 0, -1, 0);
        x.forget();
        x.see(1, 1, false);
        answers("not 1 by day 1", x, 1, 102, 1, 0, 1);
        x.forget();
        x.see(2, 29, true);
        x.see(2, 0, true);
        answers("2 as ever", x, 6, 0, 1, 0, 3);
    }

    /** i counts from the day of the question. */
    private static void relative() {
        WhiteBoard x = Check.told(THREE);
        x.see(1, 1, true);
        Check.due("not by day 1", x.scribe(2), 0);
        x.mornings(1);
        Check.due("by day 2", x.scribe(2), 1);
        x.undo();
        Check.due("what is seen is not undone", x.count(12), 1);
        Check.due("not by day 1 again", x.scribe(2), 0);
    }

    private static void closed() {
        WhiteBoard x = Check.told("master 1;place 0;person 9 0;person 9 0;");
        x.open(false);
        answers("the scribe writes all the same", x, 20, 0, 1, 0, 3);
        x.write(0);
        answers("not who stands there", x, 10, 100, 1, 0, 2);
        x.write(1);
        answers("nobody", x, 0, -1, 1, -1, 0);
    }

    private static void telling() {
        WhiteBoard x = Check.told("master 1;place 0;person 9 0;person 9 0;person 9 0;");
        x.open(false);
        x.see(0, 0, false);
        x.see(1, 0, false);
        x.see(2, 0, false);
        answers("ahead of the second morning nobody", x, 27, 1, 1, 1, 4);
        x.mornings(3);
        answers("days from now", x, 27, 1, 1, 1, 4);
        x.see(0, 4, false);
        x.see(1, 4, false);
        x.see(2, 6, true);
        answers("2 from 1 to 6", x, 6, 201, 0, 1, 2);
    }

    /** By the day on which 0 is put in, it is sold ahead of 1, between 1 and 2, or behind them: three debts. */
    private static void thirtiethMorning() {
        WhiteBoard x = Check.told("master 999;place 0;person 0 0;person 50 0;person 51 0;"
            + "person 1 0;person 2 0;person 3 0;writes (day=3)*(goods=50) or (day=6)*(goods=51) or "
            + "(day=29)*((debt=914)*(goods=1)+(debt=909)*(goods=2)+(debt=904)*(goods=3));");
        x.see(0, 28, true);
        answers("the thirtieth morning", x, 10, 0, 0, 29, 3);
    }

    private static void lastDays() {
        WhiteBoard x = Check.told("master 1;place 0;person 9 0;person 9 0;");
        x.open(false);
        x.mornings(20);
        x.mornings(20);
        x.mornings(18);
        x.see(0, 29, true);
        answers("behind the last morning", x, 2, 0, 0, 0, 2);
        x.forget();
        answers("two mornings", x, 4, 0, 1, 0, 3);
        x.mornings(1);
        Check.due("the last morning alone", x.tells(1), 2);
        answers("the last morning", x, 2, 0, 1, 0, 2);
        x.mornings(1);
        answers("no morning", x, 0, -1, 1, -1, 0);
        x.see(0, 0, true);
        answers("no morning, as it is", x, 0, -1, 0, -1, 0);
        x.write(0);
        answers("no morning, written", x, 0, -1, 1, -1, 0);
    }
}
