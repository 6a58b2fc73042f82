/** Boundary cases of rolls, bargains, LISTS by a seed, KIN: promises 30 to 32, 40, and BARRED of 5. */
final class EdgesOfMasters {
    private EdgesOfMasters() {
    }

    static void all() {
        rolls();
        rollsOfNine();
        bargains();
        barred();
        drawing();
        drawnMornings();
        drawnSales();
        drawnLists();
        drawnOrder();
        withoutDraws();
        steps();
    }

    /** All of these are dead; one more is not. */
    private static WhiteBoard dead(String goods) {
        StringBuilder text = new StringBuilder("place 9;");
        String[] each = goods.split(" ");
        for (String one : each) {
            text.append("person ").append(one).append(" 0;");
        }
        WhiteBoard x = Check.told(text.append(each.length < 9 ? "person 17 0;" : "").toString());
        for (int p = 0; p < each.length; p++) {
            x.write(p);
        }
        x.mornings(2);
        Edge.due("dead", x.count(6), (1 << each.length) - 1);
        return x;
    }

    private static void rolls() {
        Edge.says(Edge.TERMS, "A ROLL: the fewest of those DEAD whose GOODS together are just so much (0 to 999): of as few the least as bits; none.");
        Edge.says(30, "A ROLL, as bits; NONE: none.");
        WhiteBoard x = dead("10 20 30 30 40 0");
        Edge.due("0 by nobody", x.roll(0), 0);
        Edge.due("just so much", x.roll(10), 1);
        Edge.due("not less", x.roll(9), -1);
        Edge.due("not more", x.roll(11), -1);
        Edge.due("one rather than two, the least of two", x.roll(30), 4);
        Edge.due("two rather than three", x.roll(60), 4 + 8);
        Edge.due("the least as bits of 10 + 40, 20 + 30, 20 + 30", x.roll(50), 2 + 4);
        Edge.due("of 10 + 30, 10 + 30, and 40 the fewest", x.roll(40), 16);
        Edge.due("all but 0", x.roll(130), 31);
        Edge.due("more than all", x.roll(131), -1);
        Edge.due("the living don't count", x.roll(17), -1);
        Edge.due("the most", x.roll(999), -1);
        WhiteBoard nobody = Check.told("place 0;person 10 0;person 0 0;");
        Edge.due("nobody is dead", nobody.roll(10), -1);
        Edge.due("nobody is dead, 0", nobody.roll(0), 0);
        Edge.says(30, "IllegalArgumentException: not 0 to 999.");
        for (int sum : new int[] {-1, 1000, Integer.MIN_VALUE, Integer.MAX_VALUE}) {
            Edge.illegal("roll " + sum, () -> x.roll(sum));
        }
    }

    private static void rollsOfNine() {
        Edge.says(30, "A ROLL, as bits;");
        WhiteBoard x = dead("1 2 4 8 16 32 64 90 99");
        Edge.due("the ninth", x.roll(99), 256);
        Edge.due("all nine", x.roll(316), 511);
        Edge.due("90 + 8 + 1, or 99", x.roll(98), 128 + 8);
        Edge.due("1 to 32 together", x.roll(63), 63);
        WhiteBoard most = dead("99 99 99 99 99 99 99 99 99");
        Edge.row("by 99", new int[] {0, 1, 3, 7, 15, 31, 63, 127, 255, 511, -1}, i -> most.roll(99 * i));
    }

    /** The one who gives nothing up gains more by it, whatever the other one does; so just the couple 0, 0 rests. */
    private static void bargains() {
        Edge.says(Edge.TERMS, "A BARGAIN of two MASTERS: each gives up his FRIEND (the first one told who isn't on THE LIST), or not (1, 0): he gains 5 "
            + "for each FOE of his that the other one gives up, and loses 3 by giving up his own; but both lose 1, if neither does: "
            + "a couple RESTS, if neither gains more by the other choice (who has no such FRIEND can't choose 1): how many; the first "
            + "(10 by the first one's and the other one's).");
        Edge.says(31, "A BARGAIN: how many couples rest (what 0), the first (1; NONE: none).");
        WhiteBoard x = Check.told("master 1;master 1;master 1;place 0;person 1 0;person 1 0;friend 0 0;friend 1 1;foe 0 1;foe 1 0;");
        for (int m = 0; m < 3; m++) {
            int one = m;
            int other = (m + 1) % 3;
            Edge.row("of " + one + " and " + other, new int[] {1, 0}, what -> x.bargain(one, other, what));
            Edge.row("of " + other + " and " + one, new int[] {1, 0}, what -> x.bargain(other, one, what));
        }
        x.write(0);
        x.write(1);
        Edge.row("of two whose friends are on the list", new int[] {1, 0}, what -> x.bargain(0, 1, what));
        Edge.says(31, "NoSuchElementException: also another what. IllegalArgumentException (behind that): both are one.");
        Edge.noOther("master", 3, m -> x.bargain(m, 0, 0));
        Edge.noOther("other", 3, m -> x.bargain(0, m, 0));
        Edge.noOther("both are one that there isn't", 3, m -> x.bargain(m, m, 0));
        Edge.noOther("what", 2, what -> x.bargain(0, 1, what));
        Edge.noOther("what, both are one", 2, what -> x.bargain(1, 1, what));
        for (int m = 0; m < 3; m++) {
            int one = m;
            Edge.illegal("both are " + m, () -> x.bargain(one, one, 0));
            Edge.illegal("both are " + m + ", the first", () -> x.bargain(one, one, 1));
        }
    }

    private static void barred() {
        Edge.says(Edge.TERMS, "BARRED: those not on THE LIST who have KIN on it, by one or more steps of KIN (bits).");
        StringBuilder row = new StringBuilder("place 0;" + "person 1 0;".repeat(9));
        for (int p = 0; p < 8; p++) {
            row.append("kin ").append(p + 1).append(' ').append(p).append(';');
        }
        for (int p = 0; p < 9; p++) {
            WhiteBoard x = Check.told(row.toString());
            Edge.due("nobody is on it", x.count(10), 0);
            x.write(p);
            Edge.due("all but " + p, x.count(10), 511 - (1 << p));
        }
        WhiteBoard two = Check.told("place 9;sea;person 1 0;person 1 0;person 1 1;person 1 0;person 1 0;kin 0 1;kin 1 2;kin 3 4;");
        two.write(2);
        Edge.due("two steps from who is away", two.count(10), 1 + 2);
        two.write(0);
        Edge.due("between two who are on it", two.count(10), 2);
        two.mornings(2);
        Edge.due("one is dead", two.count(10), 2);
        two.write(3);
        two.mornings(2);
        Edge.due("kin of the dead", two.count(10), 2 + 16);
        two.strike(2);
        Edge.due("struck off, and barred", two.count(10), 2 + 4 + 16);
        WhiteBoard single = Check.told("place 0;person 1 0;person 1 0;");
        single.write(0);
        Edge.due("no kin", single.count(10), 0);
    }

    private static int next(int seed) {
        return seed * 1103515245 + 12345;
    }

    private static int drawn(int seed, int n) {
        return (seed >>> 16 & 0x7fff) % n;
    }

    /** One master, one person, one morning: the third draw tells whether the one is found. */
    private static void drawing() {
        Edge.says(Edge.TERMS, "A seed becomes itself times 1103515245 and 12345 (an int that wraps); a DRAW of n is its bits 16 to 30 MOD n then.");
        Edge.says(Edge.TERMS, "LISTS by a seed: n MORNINGS (0 to 60): in each a DRAW of MASTERS, a DRAW of PEOPLE: that one is written by that one, if not "
            + "on THE LIST, and it is open; then of those on it who are neither DEAD nor AWAY each, in order, is found, if a DRAW of "
            + "10 is less than the DANGER;");
        int[] seeds = {0, 1, -1, 7, 12345, -99999, Integer.MAX_VALUE, Integer.MIN_VALUE, 1 << 16, 1 << 30, 0x7fff0000};
        int[] foundAt = new int[10];
        for (int seed : seeds) {
            int third = drawn(next(next(next(seed))), 10);
            for (int danger = 0; danger <= 9; danger++) {
                WhiteBoard x = Check.told("master 99;place " + danger + ";person 9 0;");
                int found = third < danger ? 1 : 0;
                foundAt[danger] += found;
                Edge.row("by " + seed + " at " + danger, new int[] {found, 99 - 9 * found, 0}, what -> x.lists(seed, 1, what));
            }
        }
        Edge.due("never at danger 0", foundAt[0], 0);
        Edge.due("at danger 9 often", foundAt[9] > 5, true);
        for (int seed : seeds) {
            int master = drawn(next(seed), 3);
            int person = drawn(next(next(seed)), 2);
            boolean found = drawn(next(next(next(seed))), 10) < 9;
            WhiteBoard x = Check.told("master 100;master 200;master 300;place 9;person 1 0;person 3 0;");
            int debts = 600 - (found ? 1 + 2 * person : 0);
            Edge.row("two to be drawn by " + seed + ", by master " + master, new int[] {found ? 1 : 0, debts, 0}, what -> x.lists(seed, 1, what));
        }
    }

    private static void drawnMornings() {
        Edge.says(32, "LISTS: DEAD (what 0), DEBTS (1), SALES that brought nothing (2).");
        WhiteBoard x = Check.told("master 60;master 40;place 9;person 10 0;person 10 0;person 10 0;");
        Edge.row("no mornings", new int[] {0, 100, 0}, what -> x.lists(5, 0, what));
        for (int seed : new int[] {0, 3, -5, 1 << 20}) {
            // In whatever order they are sold, they bring 10, 9 and 8.
            Edge.row("sixty by " + seed, new int[] {3, 100 - 27, 0}, what -> x.lists(seed, 60, what));
        }
        Edge.says(32, "NoSuchElementException: another what. IllegalArgumentException (behind that): n.");
        for (int n : new int[] {-1, 61, Integer.MIN_VALUE, Integer.MAX_VALUE}) {
            Edge.illegal("n " + n, () -> x.lists(5, n, 0));
            Edge.noSuch("what 3, n " + n, () -> x.lists(5, n, 3));
            Edge.noSuch("what -1, n " + n, () -> x.lists(5, n, -1));
        }
        Edge.noOther("what", 3, what -> x.lists(5, 1, what));
    }

    private static void drawnSales() {
        Edge.says(Edge.TERMS, "SALES as ever: how many are DEAD at the end; DEBTS of all MASTERS together; how many SALES of these MORNINGS brought nothing.");
        WhiteBoard x = Check.told("master 5;place 9;person 1 0;person 0 0;person 50 0;");
        x.write(0);
        x.write(1);
        x.open(false);
        x.mornings(3);
        x.open(true);
        Edge.row("the dead of the days ahead, what they owe now", new int[] {2, 5, 0}, what -> x.lists(1, 0, what));
        Edge.row("the third one, not below 0, brings something", new int[] {3, 0, 0}, what -> x.lists(1, 60, what));
        WhiteBoard nothing = Check.told("master 5;place 9;person 0 0;person 0 0;person 0 0;");
        Edge.row("0 brings nothing", new int[] {3, 5, 3}, what -> nothing.lists(1, 60, what));
        WhiteBoard little = Check.told("master 5;place 9;person 1 0;person 1 0;person 1 0;");
        Edge.row("nine tenths of 1, and eight, bring nothing", new int[] {3, 4, 2}, what -> little.lists(1, 60, what));
        WhiteBoard scribes = Check.told("master 5;place 9;person 50 0;");
        scribes.write(0);
        Edge.row("the scribe's name pays nobody's", new int[] {1, 5, 0}, what -> scribes.lists(1, 60, what));
        WhiteBoard all = Check.told("master 999;master 999;master 999;sea;person 9 0;");
        Edge.row("of all masters, nobody is found away", new int[] {0, 2997, 0}, what -> all.lists(1, 60, what));
    }

    private static void drawnLists() {
        Edge.says(Edge.TERMS, "if not on THE LIST, and it is open;");
        WhiteBoard x = Check.told("master 99;place 9;person 9 0;person 9 0;person 9 0;");
        x.write(1);
        x.open(false);
        Edge.row("closed: the one who is on it", new int[] {1, 99, 0}, what -> x.lists(8, 60, what));
        x.open(true);
        Edge.due("open: all", x.lists(8, 60, 0), 3);
        Edge.due("nothing changes", x.count(5), 2);
        Edge.due("nobody is dead", x.count(6), 0);
        Edge.toDay(x, 60);
        WhiteBoard last = Check.told("master 99;place 1;person 9 0;");
        Edge.toDay(last, 60);
        last.strike(0);
        Edge.due("sixty mornings from the last day on", last.lists(2, 60, 0), Check.told("master 99;place 1;person 9 0;").lists(2, 60, 0));
    }

    private static void drawnOrder() {
        Edge.says(Edge.TERMS, "then of those on it who are neither DEAD nor AWAY each, in order, is found,");
        WhiteBoard x = Check.told("master 99;place 5;sea;person 9 1;person 20 0;person 10 0;");
        x.mornings(3);
        Edge.due("all are on it, nobody is dead", x.count(5) - x.count(6), 7);
        for (int seed = -20; seed < 20; seed++) {
            int by = seed;
            int third = next(next(next(seed)));
            boolean isFirst = drawn(third, 10) < 5;
            boolean isSecond = drawn(next(third), 10) < 5;
            int owed = 99 - (isFirst ? 20 : 0) - (isSecond ? isFirst ? 9 : 10 : 0);
            int dead = (isFirst ? 1 : 0) + (isSecond ? 1 : 0);
            Edge.row("by " + seed, new int[] {dead, owed, 0}, what -> x.lists(by, 1, what));
        }
    }

    private static void withoutDraws() {
        Edge.says(Edge.TERMS, "(Without MASTERS, or without PEOPLE, nothing is drawn.)");
        WhiteBoard masterless = Check.told("place 9;person 9 0;");
        masterless.write(0);
        Edge.row("without masters", new int[] {0, 0, 0}, what -> masterless.lists(1, 60, what));
        WhiteBoard lonely = Check.told("master 7;master 8;place 9;");
        Edge.row("without people", new int[] {0, 15, 0}, what -> lonely.lists(1, 60, what));
        Edge.row("without any", new int[] {0, 0, 0}, what -> new WhiteBoard().lists(1, 60, what));
    }

    private static void steps() {
        Edge.says(Edge.TERMS, "STEPS of KIN from one to another one: the fewest (0 of oneself); none.");
        Edge.says(40, "STEPS of KIN; NONE: none.");
        StringBuilder row = new StringBuilder("place 0;" + "person 1 0;".repeat(9));
        for (int p = 0; p < 8; p++) {
            row.append("kin ").append(p + 1).append(' ').append(p).append(';');
        }
        WhiteBoard nine = Check.told(row.toString());
        Edge.row("from 0 to", new int[] {0, 1, 2, 3, 4, 5, 6, 7, 8}, p -> nine.steps(0, p));
        Edge.row("to 0 from", new int[] {0, 1, 2, 3, 4, 5, 6, 7, 8}, p -> nine.steps(p, 0));
        WhiteBoard round = Check.told(row + "kin 0 8;");
        Edge.row("the shorter way round to", new int[] {0, 1, 2, 3, 4, 4, 3, 2, 1}, p -> round.steps(0, p));
        WhiteBoard apart = Check.told("place 0;" + "person 1 0;".repeat(4) + "kin 0 1;kin 2 3;");
        Edge.row("from 1 to", new int[] {1, 0, -1, -1}, p -> apart.steps(1, p));
        apart.write(0);
        Edge.due("whoever is on the list", apart.steps(1, 0), 1);
        Edge.noOther("person", 4, p -> apart.steps(p, 0));
        Edge.noOther("other", 4, p -> apart.steps(0, p));
    }
}
