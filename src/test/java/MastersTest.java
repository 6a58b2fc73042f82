/** Promises 30 to 32, 40: rolls, bargains, lists by a seed, kin; BARRED of promise 5. */
public final class MastersTest {
    private static final String FOUR = "master 100;master 50;place 5;place 9;place 5;sea;"
        + "person 30 0;person 1 1;person 40 2;person 0 3;";

    public static void main(String[] args) {
        rolls();
        bargains();
        lists();
        listsOfWorth();
        listsWithout();
        kin();
        Check.end("MastersTest");
    }

    private static void rolls() {
        WhiteBoard x = Check.told("master 1;master 1;master 1;place 9;place 0;"
            + "person 10 0;person 20 0;person 30 0;person 30 0;person 40 0;person 0 0;person 60 1;writes 1;");
        Check.due("nobody is dead, 0", x.roll(0), 0);
        Check.due("nobody is dead, 10", x.roll(10), -1);
        x.mornings(3);
        Check.due("dead", x.count(6), 63);
        Check.due("0 by nobody", x.roll(0), 0);
        Check.due("30 by one, the least", x.roll(30), 4);
        Check.due("50: of 10 + 40, 20 + 30, 20 + 30 the least", x.roll(50), 2 + 4);
        Check.due("60: 20 + 40 ahead of 30 + 30 as bits", x.roll(60), 4 + 8);
        Check.due("130: all", x.roll(130), 31);
        Check.due("131", x.roll(131), -1);
        Check.due("999", x.roll(999), -1);
        Check.illegal("roll(-1)", () -> x.roll(-1));
        Check.illegal("roll(1000)", () -> x.roll(1000));
    }

    /** Each one gains more by 0, whatever the other one does: just 0, 0 rests. */
    private static void bargains() {
        WhiteBoard x = Check.told("master 1;master 1;master 1;place 0;person 1 0;person 1 0;"
            + "friend 0 0;friend 1 1;foe 0 1;foe 1 0;");
        Check.due("couples", x.bargain(0, 1, 0), 1);
        Check.due("the first", x.bargain(0, 1, 1), 0);
        Check.due("one without a friend", x.bargain(2, 0, 0), 1);
        Check.due("one without a friend, the first", x.bargain(2, 0, 1), 0);
        x.write(0);
        Check.due("a friend on the list", x.bargain(0, 1, 0), 1);
        Check.illegal("bargain(1, 1, 0)", () -> x.bargain(1, 1, 0));
        Check.noSuch("bargain(1, 1, 2)", () -> x.bargain(1, 1, 2));
        Check.noSuch("bargain(0, 1, -1)", () -> x.bargain(0, 1, -1));
        Check.noSuch("bargain(3, 1, 0)", () -> x.bargain(3, 1, 0));
        Check.noSuch("bargain(0, 3, 0)", () -> x.bargain(0, 3, 0));
        Check.noSuch("bargain(3, 3, 0)", () -> x.bargain(3, 3, 0));
        Check.noSuch("bargain(-1, 0, 0)", () -> x.bargain(-1, 0, 0));
    }

    private static void listsAre(String when, WhiteBoard x, int seed, int n, int dead, int debts, int nothing) {
        Check.due(when + ": dead by " + seed + ", " + n, x.lists(seed, n, 0), dead);
        Check.due(when + ": debts by " + seed + ", " + n, x.lists(seed, n, 1), debts);
        Check.due(when + ": nothing by " + seed + ", " + n, x.lists(seed, n, 2), nothing);
    }

    private static void lists() {
        WhiteBoard x = Check.told(FOUR);
        listsAre("no mornings", x, 5, 0, 0, 150, 0);
        listsAre("at first", x, 5, 1, 1, 149, 0);
        listsAre("at first", x, 5, 60, 3, 90, 0);
        listsAre("at first", x, -1, 5, 3, 90, 0);
        listsAre("at first", x, Integer.MAX_VALUE, 2, 1, 149, 0);
        listsAre("at first", x, 12345, 2, 0, 150, 0);
        listsAre("at first", x, 12345, 5, 2, 84, 0);
        listsAre("1 brings nothing as the third", x, 12345, 60, 3, 84, 1);
        WhiteBoard many = Check.told("master 300;master 200;master 100;"
            + "place 1;place 9;place 4;place 2;place 3;place 8;place 6;"
            + "person 30 0;person 1 1;person 99 2;person 0 3;person 50 4;person 64 0;person 7 5;person 81 2;person 12 6;");
        listsAre("many", many, 0, 7, 4, 528, 1);
        listsAre("many", many, 0, 15, 6, 461, 1);
        listsAre("many", many, 1, 7, 4, 514, 2);
        listsAre("many", many, 1, 15, 6, 430, 2);
        listsAre("many", many, 7, 7, 3, 478, 0);
        listsAre("many", many, 7, 15, 7, 387, 0);
        listsAre("many", many, -77, 7, 4, 484, 1);
        listsAre("many", many, -77, 15, 7, 400, 2);
        listsAre("many", many, Integer.MIN_VALUE, 15, 6, 461, 1);
        listsAre("many", many, 999999999, 7, 5, 470, 1);
        listsAre("many", many, 999999999, 15, 8, 443, 2);
        WhiteBoard one = Check.told("master 50;place 1;person 30 0;");
        listsAre("one and one", one, 9, 3, 0, 50, 0);
        listsAre("one and one", one, 9, 20, 1, 20, 0);
        x.mornings(20);
        x.undo();
        x.write(0);
        x.open(false);
        listsAre("closed, but for the scribe's", x, 5, 60, 1, 150, 0);
        Check.due("nothing changes", x.count(5), 1);
        Check.noSuch("lists(1, 1, 3)", () -> x.lists(1, 1, 3));
        Check.noSuch("lists(1, 61, -1)", () -> x.lists(1, 61, -1));
        Check.illegal("lists(1, 61, 0)", () -> x.lists(1, 61, 0));
        Check.illegal("lists(1, -1, 2)", () -> x.lists(1, -1, 2));
    }

    /** The sales so far and the dead count from the day of the question, the days do not. */
    private static void listsOfWorth() {
        WhiteBoard x = Check.told("master 9;place 9;place 0;person 1 0;person 0 0;person 1 1;");
        x.mornings(2);
        Check.due("sold", x.count(8), 1);
        listsAre("1, 0 and nobody at a danger of 0", x, 3, 60, 2, 8, 1);
        x.mornings(20);
        x.mornings(20);
        x.mornings(18);
        Check.due("day 60", x.count(4), 60);
        Check.due("dead", x.count(6), 5);
        listsAre("on day 60", x, 3, 60, 3, 8, 1);
    }

    private static void listsWithout() {
        WhiteBoard x = Check.told("place 9;person 5 0;");
        x.write(0);
        listsAre("without masters", x, 1, 60, 0, 0, 0);
        WhiteBoard y = Check.told("master 7;master 8;");
        listsAre("without people", y, 1, 60, 0, 15, 0);
    }

    private static void kin() {
        WhiteBoard x = Check.told("place 0;" + "person 1 0;".repeat(7)
            + "kin 0 1;kin 2 1;kin 2 3;kin 3 4;kin 4 0;kin 6 5;");
        Check.due("oneself", x.steps(6, 6), 0);
        Check.due("one", x.steps(5, 6), 1);
        Check.due("the shorter way round", x.steps(0, 3), 2);
        Check.due("two", x.steps(2, 0), 2);
        Check.due("none", x.steps(0, 5), -1);
        Check.noSuch("steps(7, 0)", () -> x.steps(7, 0));
        Check.noSuch("steps(0, -1)", () -> x.steps(0, -1));
        Check.due("KIN", x.person(0, 2), 2 + 16);
        Check.due("nobody is barred", x.count(10), 0);
        x.write(3);
        Check.due("all of those KIN", x.count(10), 1 + 2 + 4 + 16);
        x.write(6);
        x.write(0);
        Check.due("those not on the list", x.count(10), 2 + 4 + 16 + 32);
        StringBuilder chain = new StringBuilder("place 0;" + "person 1 0;".repeat(9));
        for (int p = 0; p < 8; p++) {
            chain.append("kin ").append(p + 1).append(' ').append(p).append(';');
        }
        WhiteBoard y = Check.told(chain.toString());
        Check.due("eight steps", y.steps(0, 8), 8);
        y.write(8);
        Check.due("barred by eight steps", y.count(10), 255);
    }
}
