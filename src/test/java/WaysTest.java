/** Promises 21 to 23, 33, 34: ways out, gates, the surest days, how far, the refuge. */
public final class WaysTest {
    /** Nobody is ever written here. */
    private static final String LINE = "place 3;place 4;sea;way 0 1 5;way 1 2 7;person 1 0;person 1 2;";

    public static void main(String[] args) {
        line();
        lastDays();
        foundOnTheWay();
        writtenOnTheWay();
        firstGate();
        surest();
        surestOnGates();
        surestLastDays();
        surestWrittenLast();
        far();
        refuge();
        wrongCalls();
        Check.end("WaysTest");
    }

    private static void line() {
        WhiteBoard x = Check.told(LINE);
        Check.due("two ways, two days", x.out(0), 1);
        Check.due("away now", x.out(1), 0);
        Check.due("no gate, there is a way out", x.gate(0), -1);
        Check.due("no gate, away now", x.gate(1), -1);
        x.mornings(4);
        Check.due("the last day of the first gate", x.out(0), 5);
        Check.due("away now, on day 4", x.out(1), 4);
        x.mornings(1);
        Check.due("the first gate is shut", x.out(0), -1);
        Check.due("it is that gate", x.gate(0), 0);
        x.mornings(1);
        Check.due("both gates are shut in time", x.out(0), -1);
        Check.due("no one gate would do", x.gate(0), -1);
        x.undo();
        x.undo();
        x.go(0, 0);
        x.mornings(3);
        Check.due("the second gate is shut", x.out(0), -1);
        Check.due("it is the second one", x.gate(0), 1);
        Check.due("ways go both ways", Check.told("sea;place 1;way 0 1 1;person 1 1;").out(0), 0);
        Check.due("no ways", Check.told("sea;place 1;person 1 1;").out(0), -1);
        Check.due("no ways: no gate", Check.told("sea;place 1;person 1 1;").gate(0), -1);
    }

    private static void lastDays() {
        WhiteBoard x = Check.told("place 0;place 0;sea;way 0 1 60;way 1 2 60;person 1 0;person 1 1;");
        x.mornings(20);
        x.mornings(20);
        x.mornings(19);
        Check.due("on day 59", x.out(1), 59);
        Check.due("on day 60 all gates are shut", x.out(0), -1);
        Check.due("but for that one, on the last day one may go", x.gate(0), 1);
        x.mornings(1);
        Check.due("on the last day", x.out(1), -1);
        Check.due("its gate", x.gate(1), 1);
        Check.due("no more days", x.gate(0), -1);
    }

    private static void foundOnTheWay() {
        String places = "master 0;place 9;place 9;place 9;sea;";
        WhiteBoard far = Check.told(places + "way 0 1 60;way 1 2 60;way 2 3 60;person 50 0;");
        Check.due("found in the second morning", far.out(0), -1);
        Check.due("no gate helps", far.gate(0), -1);
        WhiteBoard near = Check.told(places + "way 0 1 60;way 1 3 60;person 50 0;");
        Check.due("away ahead of the second morning", near.out(0), 1);
        WhiteBoard late = Check.told("master 0;place 9;place 1;sea;way 0 1 60;way 1 2 1;way 0 2 0;person 50 0;");
        Check.due("shut on both", late.out(0), -1);
        Check.due("the first gate of two", late.gate(0), 1);
        near.mornings(2);
        Check.due("dead", near.out(0), -1);
        Check.due("dead: no gate", near.gate(0), -1);
        WhiteBoard struck = Check.told(places + "way 0 3 60;person 50 0;");
        struck.mornings(1);
        Check.due("ahead of the morning in which one is found", struck.out(0), 1);
    }

    /** Where nobody goes, the name is written on day 3; from then on 7 days are left at a danger of 3. */
    private static void writtenOnTheWay() {
        String text = "master 0;place 9;place 9;place 9;place 9;place 9;sea;"
            + "way 0 1 60;way 1 2 60;way 2 3 60;way 3 4 60;way 4 5 60;person 50 0;writes day=";
        Check.due("written too soon", Check.told(text + "2;").out(0), -1);
        Check.due("written late enough", Check.told(text + "3;").out(0), 4);
        Check.due("written later", Check.told(text + "40;").out(0), 4);
    }

    private static void firstGate() {
        WhiteBoard x = Check.told("place 1;place 1;sea;sea;way 0 2 0;way 0 1 9;way 1 3 0;person 1 0;");
        Check.due("one gate of two", x.gate(0), 0);
        WhiteBoard y = Check.told("place 1;place 1;sea;sea;way 1 3 0;way 0 1 9;way 0 2 0;person 1 0;");
        Check.due("the first gate, if not the nearest", y.gate(0), 0);
    }

    private static void surest() {
        WhiteBoard x = Check.told("master 0;place 9;place 3;place 0;way 0 1 2;way 1 2 60;person 50 0;person 9 2;person 1 0;"
            + "writes goods*(1<goods);");
        Check.due("one day", x.surest(0, 1), 7);
        Check.due("two days", x.surest(0, 2), 70);
        Check.due("nine days", x.surest(0, 9), 700000000);
        Check.due("not written on that day", x.surest(1, 1), 10);
        Check.due("no danger", x.surest(1, 3), 1000);
        Check.due("never written", x.surest(2, 9), 1000000000);
        x.write(2);
        Check.due("written by the scribe", x.surest(2, 1), 7);
        x.mornings(2);
        Check.due("dead", x.surest(0, 9), 0);
        Check.due("shut on day 2", x.surest(2, 1), 0);
    }

    private static void surestOnGates() {
        WhiteBoard x = Check.told("master 0;place 5;place 9;sea;way 0 1 9;way 1 2 1;person 50 0;person 40 1;");
        Check.due("stay where it is less", x.surest(0, 2), 25);
        Check.due("to the sea, and stay there", x.surest(1, 9), 1000000000);
        x.mornings(1);
        Check.due("the gate is shut", x.surest(1, 2), 25);
        Check.due("not as many days as that", x.surest(0, 1), 5);
        WhiteBoard y = Check.told("master 0;place 9;place 9;sea;way 0 1 2;way 1 2 2;person 50 0;");
        Check.due("through the worse, to be away", y.surest(0, 3), 100);
        WhiteBoard shut = Check.told("place 9;sea;way 0 1 0;person 50 0;");
        shut.write(0);
        Check.due("the first way is shut", shut.surest(0, 2), 1);
        WhiteBoard away = Check.told("place 9;sea;way 0 1 60;person 50 1;");
        away.write(0);
        Check.due("away", away.surest(0, 2), 100);
        Check.due("at a danger of 0 for ever", Check.told("place 0;person 1 0;").surest(0, 1), 10);
    }

    /** Each day from now on has its morning there, the last one and those behind it, too. */
    private static void surestLastDays() {
        WhiteBoard x = Check.told("place 4;place 2;sea;way 0 1 60;way 0 2 59;person 1 0;person 1 2;");
        toDay58(x);
        x.write(0);
        x.write(1);
        Check.due("two mornings by the sea", x.surest(0, 2), 100);
        Check.due("nine by the sea", x.surest(0, 9), 1000000000);
        x.mornings(1);
        Check.due("on day 59 by the other way", x.surest(0, 1), 8);
        Check.due("and two behind it", x.surest(0, 3), 512);
        x.mornings(1);
        Check.due("on day 60 all gates are shut", x.surest(0, 1), 6);
        Check.due("nine days from day 60 on", x.surest(0, 9), 10077696);
        Check.due("away on day 60", x.surest(1, 9), 1000000000);
        x.strike(0);
        Check.due("not on the list on day 60", x.surest(0, 9), 1000000000);
        x.write(0);
        Check.due("written on day 60", x.surest(0, 2), 36);
    }

    private static void surestWrittenLast() {
        WhiteBoard x = Check.told("master 0;place 4;person 9 0;writes day=59;");
        toDay58(x);
        Check.due("ahead of the day on which it is written", x.surest(0, 1), 10);
        Check.due("on day 59", x.surest(0, 2), 60);
        Check.due("on day 60", x.surest(0, 3), 360);
        Check.due("on day 66", x.surest(0, 9), 16796160);
        x.mornings(2);
        Check.due("as it was on day 59", x.surest(0, 2), 36);
        WhiteBoard y = Check.told("master 0;place 4;person 9 0;writes day=60;");
        toDay58(y);
        Check.due("no master writes on day 60", y.surest(0, 9), 1000000000);
    }

    private static void toDay58(WhiteBoard x) {
        x.mornings(20);
        x.mornings(20);
        x.mornings(18);
    }

    private static void far() {
        WhiteBoard x = Check.told("place 1;place 2;sea;place 3;place 4;way 0 1 0;way 1 2 0;way 2 3 9;");
        Check.due("itself", x.far(0, 0), 0);
        Check.due("one", x.far(1, 0), 1);
        Check.due("shut gates count", x.far(0, 2), 2);
        Check.due("over the sea", x.far(0, 3), 3);
        Check.due("none", x.far(0, 4), -1);
        StringBuilder text = new StringBuilder("place 1;".repeat(8));
        for (int p = 0; p < 7; p++) {
            text.append("way ").append(p).append(' ').append(p + 1).append(" 1;");
        }
        Check.due("seven ways", Check.told(text.toString()).far(7, 0), 7);
        Check.due("the fewest", Check.told(text + "way 0 6 0;").far(7, 0), 2);
    }

    private static void refuge() {
        WhiteBoard x = Check.told("place 5;place 2;place 2;sea;way 0 2 3;way 2 1 3;way 1 3 1;person 1 0;person 1 3;");
        Check.due("the sea", x.refuge(0), 3);
        Check.due("away", x.refuge(1), 3);
        x.mornings(1);
        Check.due("of like ones the least", x.refuge(0), 1);
        x.mornings(2);
        Check.due("all is shut", x.refuge(0), 0);
        WhiteBoard away = Check.told("sea;place 0;sea;way 0 1 9;way 1 2 9;person 1 2;person 1 1;");
        Check.due("who is away is there alone", away.refuge(0), 2);
        Check.due("the least of two seas", away.refuge(1), 0);
        WhiteBoard behind = Check.told("sea;place 5;sea;way 0 2 9;way 1 2 9;person 1 1;");
        Check.due("nobody goes on from a sea", behind.refuge(0), 2);
        WhiteBoard here = Check.told("place 5;place 6;place 5;way 0 1 9;way 1 2 9;person 1 2;");
        Check.due("of like ones the least, if not where one is", here.refuge(0), 0);
    }

    private static void wrongCalls() {
        WhiteBoard x = Check.told(LINE);
        Check.noSuch("out(2)", () -> x.out(2));
        Check.noSuch("out(-1)", () -> x.out(-1));
        Check.noSuch("gate(2)", () -> x.gate(2));
        Check.noSuch("gate(-1)", () -> x.gate(-1));
        Check.noSuch("surest(2, 1)", () -> x.surest(2, 1));
        Check.noSuch("surest(-1, 0)", () -> x.surest(-1, 0));
        Check.illegal("surest(0, 0)", () -> x.surest(0, 0));
        Check.illegal("surest(0, 10)", () -> x.surest(0, 10));
        Check.noSuch("far(3, 0)", () -> x.far(3, 0));
        Check.noSuch("far(0, -1)", () -> x.far(0, -1));
        Check.noSuch("refuge(2)", () -> x.refuge(2));
        Check.noSuch("refuge(-1)", () -> x.refuge(-1));
    }
}
