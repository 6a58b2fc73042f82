/** Boundary cases of what there is, of MORNINGS and other ACTS, of the image: promises 5 to 15, 39, 41, 42. */
final class EdgesOfActs {
    /** One is away at first, one may go to the sea; the first gate is shut from day 2 on. */
    private static final String THREE = "master 10;place 9;place 0;sea;way 0 1 2;way 1 2 60;"
        + "person 50 0;person 5 1;person 90 2;kin 0 1;kin 1 2;friend 0 1;foe 0 2;";
    private static final String NINE = "place 9;" + "person 9 0;".repeat(9);

    private EdgesOfActs() {
    }

    static void all() {
        atFirst();
        whoIsWritten();
        whoIsFound();
        sales();
        counts();
        masters();
        places();
        people();
        grudges();
        morningsGoBy();
        going();
        goingIsRefused();
        writing();
        striking();
        closing();
        undoing();
        fortyActs();
        imaging();
        imagesOfActs();
        sought();
        manyCalls();
    }

    private static void atFirst() {
        Edge.says(Edge.TERMS, "DAYS are 0 to 60.");
        WhiteBoard x = Check.told(THREE);
        Edge.due("the first", x.count(4), 0);
        Edge.toDay(x, 60);
        Edge.due("the last", x.count(4), 60);
        Edge.due("no day behind it", x.mornings(1), -1);
        Edge.says(Edge.TERMS, "The DAY is 0, THE LIST empty and open at first; nobody is DEAD.");
        Check.tell(x, THREE);
        Edge.due("the day", x.count(4), 0);
        Edge.due("the list", x.count(5), 0);
        Edge.due("open", x.count(9), 1);
        Edge.due("dead", x.count(6), 0);
        Edge.says(Edge.TERMS, "One is AWAY at a SEA.");
        WhiteBoard seas = Check.told("sea;place 0;sea;way 0 1 60;person 1 0;person 1 1;person 1 2;");
        Edge.due("at two seas", seas.count(7), 5);
        seas.go(1, 0);
        Edge.due("all", seas.count(7), 7);
    }

    private static void whoIsWritten() {
        Edge.says(Edge.TERMS, "A MORNING of a DAY: if THE LIST is open, MASTER by MASTER WRITES one of PEOPLE who isn't on THE LIST");
        WhiteBoard closed = Check.told("master 1;" + NINE);
        closed.open(false);
        closed.mornings(1);
        Edge.due("closed: nobody is written", closed.count(5), 0);
        WhiteBoard three = Check.told("master 1;master 1;master 1;" + NINE + "writes listed+1;");
        three.mornings(1);
        Edge.row("each of three masters writes one, the first one first", new int[] {1, 2, 4}, m -> three.master(m, 3));
        Edge.toDay(three, 4);
        Edge.due("all nine are on it, nobody is written twice", three.count(5), 511);
        Edge.row("his three", new int[] {1 + 8 + 64, 2 + 16 + 128, 4 + 32 + 256}, m -> three.master(m, 3));
        WhiteBoard second = Check.told("master 1;master 1;place 1;person 1 0;person 1 0;writes 1-listed;");
        second.mornings(1);
        Edge.due("the second master looks at what the first one wrote", second.count(5), 1);
        WhiteBoard none = Check.told("place 9;person 9 0;");
        none.mornings(20);
        Edge.due("without masters nobody is written", none.count(5), 0);
        Edge.says(Edge.TERMS, "(those DEAD and AWAY stay on it, if they are)");
        WhiteBoard stay = Check.told("master 99;place 9;sea;person 9 0;person 8 1;");
        stay.mornings(20);
        Edge.due("dead and away", stay.count(5), 3);
        Edge.due("the dead one's day", stay.person(0, 3), 0);
        Edge.due("one who is away is written", stay.person(1, 3), 1);
        Edge.due("dead", stay.count(6), 1);
        Edge.says(Edge.TERMS, ": for whom WRITES gives most (without one GOODS), if that is more than 0, of like ones the least.");
        mostIsWritten("person 3 0;person 7 0;person 5 0;", 2);
        mostIsWritten("person 3 0;person 7 0;person 5 0;writes 9-goods;", 1);
        mostIsWritten("person 3 0;person 7 0;person 7 0;", 2);
        mostIsWritten("person 7 0;person 7 0;person 7 0;", 1);
        mostIsWritten("person 0 0;person 0 0;", 0);
        mostIsWritten("person 0 0;person 1 0;", 2);
        mostIsWritten("person 5 0;person 6 0;writes goods-6;", 0);
        mostIsWritten("person 5 0;person 6 0;writes goods-5;", 2);
        mostIsWritten("person 5 0;person 6 0;writes 0-goods;", 0);
        mostIsWritten("person 0 0;person 0 0;writes 1;", 1);
        mostIsWritten("person 9 0;writes 0;", 0);
    }

    private static void mostIsWritten(String people, int list) {
        WhiteBoard x = Check.told("master 1;place 0;" + people);
        x.mornings(1);
        Edge.due(people, x.count(5), list);
    }

    private static void whoIsFound() {
        Edge.says(Edge.TERMS, "Then of those on THE LIST who are neither DEAD nor AWAY each, in order of PEOPLE, is FOUND, if the "
            + "DANGER of the PLACE and the DAYS since the one was written (0 on that DAY) are 10 or more: that one is DEAD, "
            + "and there is a SALE:");
        for (int danger = 0; danger <= 9; danger++) {
            WhiteBoard x = Check.told("place " + danger + ";person 9 0;");
            x.write(0);
            Edge.toDay(x, 10 - danger);
            Edge.due("at " + danger + ", 9 together", x.count(6), 0);
            Edge.due("no sale", x.count(8), 0);
            x.mornings(1);
            Edge.due("at " + danger + ", 10 together", x.count(6), 1);
            Edge.due("a sale", x.count(8), 1);
            x.mornings(1);
            Edge.due("found once", x.count(8), 1);
        }
        WhiteBoard late = Check.told("place 0;place 9;way 0 1 60;person 9 0;");
        late.write(0);
        late.mornings(9);
        late.go(0, 0);
        late.mornings(1);
        Edge.due("more than 10", late.count(6), 1);
        WhiteBoard off = Check.told("place 9;sea;person 9 0;person 9 1;");
        off.write(1);
        off.mornings(20);
        Edge.due("who is not on it, who is away", off.count(6), 0);
        WhiteBoard closed = Check.told("place 9;person 9 0;");
        closed.write(0);
        closed.open(false);
        closed.mornings(2);
        Edge.due("on a closed list", closed.count(6), 1);
        WhiteBoard order = Check.told("master 99;place 9;person 10 0;person 20 0;");
        order.write(1);
        order.write(0);
        order.mornings(2);
        Edge.due("the sales so far are two", order.count(8), 2);
        WhiteBoard paid = Check.told("master 99;master 99;place 9;person 20 0;person 10 0;writes 100-goods;");
        paid.mornings(2);
        Edge.due("10, the first one's name, is sold as the second", paid.master(0, 0), 99 - 9);
        Edge.due("20 is sold as the first", paid.master(1, 0), 99 - 20);
        Edge.says(Edge.TERMS, "The DAY is 1 more then.");
        Edge.due("two mornings, two days", paid.count(4), 2);
        Edge.due("of the day", paid.person(0, 3), 0);
    }

    private static void sales() {
        Edge.says(Edge.TERMS, "GOODS by 10 less SALES so far (9 of these at most), a tenth of that, cut down, is what they bring:");
        WhiteBoard x = Check.told("place 9;" + "person 99 0;".repeat(9));
        int[] brings = {99, 89, 79, 69, 59, 49, 39, 29, 19, 9};
        for (int sales = 0; sales < 9; sales++) {
            Edge.due("behind " + sales + " sales", x.person(8, 5), brings[sales]);
            x.write(sales);
            x.mornings(2);
            Edge.due("sales", x.count(8), sales + 1);
        }
        Edge.due("behind 9 sales", x.person(8, 5), 9);
        WhiteBoard small = Check.told("place 9;person 1 0;person 0 0;person 9 0;");
        Edge.row("of 1, 0, 9", new int[] {1, 0, 9}, p -> small.person(p, 5));
        small.write(0);
        small.mornings(2);
        Edge.row("nine tenths of 1, 0, 9", new int[] {0, 0, 8}, p -> small.person(p, 5));
        Edge.says(Edge.TERMS, "the DEBT of the MASTER who wrote the name is so much less, not below 0 (of one that the scribe wrote nobody's).");
        int[][] dueByDebt = {{0, 0}, {19, 0}, {20, 0}, {21, 1}, {999, 979}};
        for (int[] due : dueByDebt) {
            WhiteBoard y = Check.told("master " + due[0] + ";master 7;place 9;person 20 0;writes goods*(listed=0);");
            y.mornings(2);
            Edge.due("a debt of " + due[0] + " less 20", y.master(0, 0), due[1]);
            Edge.due("no other one's", y.master(1, 0), 7);
        }
        WhiteBoard scribes = Check.told("master 50;master 60;place 9;person 20 0;");
        scribes.write(0);
        scribes.mornings(2);
        Edge.due("sold", scribes.count(8), 1);
        Edge.row("the debts stay", new int[] {50, 60}, m -> scribes.master(m, 0));
    }

    private static void counts() {
        Edge.says(5, "0 MASTERS, 1 PLACES, 2 WAYS, 3 PEOPLE, 4 the DAY, 5 THE LIST (bits), 6 DEAD (bits), 7 AWAY (bits), 8 SALES,");
        WhiteBoard x = Check.told(THREE);
        x.mornings(3);
        Edge.row("count", new int[] {1, 3, 2, 3, 3, 7, 1, 4, 1}, x::count);
        Edge.says(5, "9 whether THE LIST is open (1),");
        Edge.due("open", x.count(9), 1);
        x.open(false);
        Edge.due("closed", x.count(9), 0);
        Edge.says(5, "10 BARRED (bits),");
        Edge.due("all are on it", x.count(10), 0);
        x.strike(1);
        Edge.due("struck off", x.count(10), 2);
        Edge.says(5, "11 ACTS that are kept, 12 SEEN, 13 bytes of the tape,");
        x.see(0, 0, true);
        Check.feed(x, "!");
        Edge.row("three acts, one seen, twenty bytes: ", new int[] {3, 1, 20}, i -> x.count(11 + i));
        Edge.says(5, "14 to 16 STATUS 0 to 2.");
        x.board(1);
        x.open(false);
        x.open(false);
        x.see(0, 30, true);
        x.see(0, 30, true);
        x.see(0, 30, true);
        Edge.row("STATUS", new int[] {1, 2, 3}, i -> x.count(14 + i));
        Edge.says(Edge.TERMS, "STATUS: how many calls were refused: 0 of TEXTS with a FAULT, 1 of ACTS, 2 of what is SEEN.");
        x.restore();
        x.feed(0, 0, 0, 0, 0);
        x.forget();
        x.mornings(1);
        while (x.undo() > 0) {
            Edge.due("undo is none", x.count(15), 2);
        }
        x.undo();
        Edge.row("nothing else counts: STATUS", new int[] {1, 2, 3}, i -> x.count(14 + i));
        Edge.says(5, "NoSuchElementException: another what.");
        Edge.noOther("count", 17, x::count);
    }

    private static void masters() {
        Edge.says(6, "Of a MASTER: 0 DEBT, 1 FRIENDS (bits), 2 FOES (bits), 3 those he wrote (bits).");
        WhiteBoard x = Check.told("master 50;master 0;" + NINE + "friend 0 0;friend 0 8;foe 1 8;foe 0 4;writes day=0 or goods*(kin=1);");
        Edge.row("of 0", new int[] {50, 257, 16, 0}, what -> x.master(0, what));
        Edge.row("of 1", new int[] {0, 0, 256, 0}, what -> x.master(1, what));
        x.write(8);
        x.mornings(1);
        Edge.row("they wrote", new int[] {1, 2}, m -> x.master(m, 3));
        x.mornings(1);
        Edge.row("the dead count", new int[] {1, 2}, m -> x.master(m, 3));
        WhiteBoard last = Check.told("master 1;master 1;place 0;" + "person 0 0;".repeat(8) + "person 9 0;");
        last.mornings(1);
        Edge.row("the ninth", new int[] {256, 0}, m -> last.master(m, 3));
        last.strike(8);
        Edge.row("struck off", new int[] {0, 0}, m -> last.master(m, 3));
        Edge.says(6, "NoSuchElementException: no such MASTER (as everywhere), what.");
        Edge.noOther("master", 2, m -> x.master(m, 0));
        Edge.noOther("what", 4, what -> x.master(0, what));
    }

    private static void places() {
        Edge.says(7, "Of a PLACE: 0 DANGER (NONE: the SEA), 1 PEOPLE there (bits), 2 WAYS.");
        WhiteBoard x = Check.told(THREE);
        Edge.row("0", new int[] {9, 1, 1}, what -> x.place(0, what));
        Edge.row("1", new int[] {0, 2, 2}, what -> x.place(1, what));
        Edge.row("the sea", new int[] {-1, 4, 1}, what -> x.place(2, what));
        x.go(0, 0);
        x.go(1, 1);
        Edge.row("gone: people at", new int[] {0, 1, 6}, p -> x.place(p, 1));
        Edge.row("shut ways count", new int[] {1, 1}, p -> Check.told("sea;sea;way 1 0 0;").place(p, 2));
        WhiteBoard dead = Check.told(NINE + "sea;");
        dead.write(8);
        dead.mornings(2);
        Edge.row("the dead are there", new int[] {9, 511, 0}, what -> dead.place(0, what));
        Edge.says(7, "NoSuchElementException: no such PLACE (as everywhere), what.");
        Edge.noOther("place", 3, p -> x.place(p, 0));
        Edge.noOther("what", 3, what -> x.place(0, what));
    }

    private static void people() {
        Edge.says(8, "Of a PERSON: 0 GOODS, 1 the PLACE, 2 KIN (bits), 3 the DAY on which the name was written (NONE), "
            + "4 by which MASTER (NONE: not on THE LIST; -2: the scribe), 5 the SALE to come.");
        WhiteBoard x = Check.told(THREE);
        Edge.row("0", new int[] {50, 0, 2, -1, -1, 50}, what -> x.person(0, what));
        Edge.row("1", new int[] {5, 1, 5, -1, -1, 5}, what -> x.person(1, what));
        x.mornings(1);
        x.write(1);
        x.mornings(2);
        Edge.row("dead by a master", new int[] {50, 0, 2, 1, 0, 45}, what -> x.person(0, what));
        Edge.row("the scribe's", new int[] {5, 1, 5, 1, -2, 4}, what -> x.person(1, what));
        Edge.row("away", new int[] {90, 2, 2, 0, 0, 81}, what -> x.person(2, what));
        x.strike(1);
        Edge.row("struck off", new int[] {5, 1, 5, -1, -1, 4}, what -> x.person(1, what));
        Edge.says(Edge.TERMS, "A SALE to come: what GOODS of one would bring, were the one FOUND now.");
        Edge.due("behind one sale nine tenths, cut down", x.person(1, 5), 4);
        Edge.says(8, "NoSuchElementException: no such PERSON (as everywhere), what.");
        Edge.noOther("person", 3, p -> x.person(p, 0));
        Edge.noOther("what", 6, what -> x.person(0, what));
    }

    private static void grudges() {
        Edge.says(9, "GRUDGE.");
        Edge.says(Edge.TERMS, "GRUDGE: what WRITES gives now for a MASTER and one of PEOPLE (without it GOODS).");
        WhiteBoard without = Check.told("master 1;place 9;person 0 0;person 99 0;");
        Edge.row("goods of", new int[] {0, 99}, p -> without.grudge(0, p));
        WhiteBoard x = Check.told("master 1;master 9;place 9;person 7 0;person 5 0;writes debt-goods-day;");
        Edge.due("below 0", x.grudge(0, 0), -6);
        Edge.due("of the other one", x.grudge(1, 0), 2);
        x.mornings(1);
        Edge.due("now, on the list", x.grudge(1, 1), 3);
        x.mornings(1);
        Edge.due("dead: a debt of 4, day 2", x.grudge(1, 1), 4 - 5 - 2);
        Edge.noOther("master", 2, m -> x.grudge(m, 0));
        Edge.noOther("person", 2, p -> x.grudge(0, p));
    }

    private static void morningsGoBy() {
        Edge.says(10, "MORNINGS go by: the DAY.");
        Edge.says(Edge.TERMS, "MORNINGS go by (1 to 20);");
        WhiteBoard x = Check.told(THREE);
        Edge.due("one", x.mornings(1), 1);
        Edge.due("twenty", x.mornings(20), 21);
        Edge.due("two acts", x.count(11), 2);
        WhiteBoard each = Check.told(THREE);
        for (int day = 1; day <= 21; day++) {
            each.mornings(1);
        }
        String ones = Edge.state(each).replaceFirst(" 21 0 0 ", " 2 0 0 ");
        Edge.due("twenty are as one by one: " + ones, Edge.state(x).equals(ones), true);
        Edge.says(10, "NONE (STATUS 1): not 1 to 20,");
        for (int many : new int[] {0, 21, -1, Integer.MIN_VALUE, Integer.MAX_VALUE}) {
            Edge.refused("mornings " + many, x, 1, () -> Edge.due("mornings " + many, x.mornings(many), -1));
        }
        Edge.says(10, "it would be above 60.");
        int[][] fromTo = {{40, 20, 60}, {41, 20, -1}, {41, 19, 60}, {59, 1, 60}, {59, 2, -1}, {60, 1, -1}, {60, 20, -1}};
        for (int[] one : fromTo) {
            WhiteBoard y = Check.told(THREE);
            Edge.toDay(y, one[0]);
            if (one[2] == -1) {
                Edge.refused("from " + one[0], y, 1, () -> Edge.due("from " + one[0] + " " + one[1], y.mornings(one[1]), -1));
            } else {
                Edge.due("from " + one[0] + " " + one[1], y.mornings(one[1]), one[2]);
            }
        }
    }

    private static void going() {
        Edge.says(11, "GOES by a WAY: the PLACE then.");
        WhiteBoard x = Check.told(THREE);
        Edge.due("to the second place of a way", x.go(0, 0), 1);
        Edge.due("and to the first one", x.go(0, 0), 0);
        Edge.due("as often as one likes", x.go(0, 0), 1);
        Edge.due("to the sea", x.go(0, 1), 2);
        Edge.due("four acts", x.count(11), 4);
        Edge.due("the place", x.person(0, 1), 2);
    }

    private static void goingIsRefused() {
        WhiteBoard x = Check.told(THREE);
        Edge.says(Edge.TERMS, "one GOES by a WAY to the other PLACE (not DEAD, not AWAY; the GATE open on this DAY);");
        Edge.says(11, "NONE (STATUS 1): DEAD, AWAY, no such WAY from there, the GATE is shut.");
        Edge.refused("no such way from there", x, 1, () -> Edge.due("from 0", x.go(0, 1), -1));
        Edge.refused("away", x, 1, () -> Edge.due("from the sea", x.go(2, 1), -1));
        x.go(1, 1);
        Edge.refused("away since", x, 1, () -> Edge.due("from the sea", x.go(1, 1), -1));
        x.mornings(1);
        Edge.due("2 is open on day 1", x.go(0, 0), 1);
        Edge.due("and back", x.go(0, 0), 0);
        x.mornings(1);
        Edge.refused("shut from day 2 on", x, 1, () -> Edge.due("on day 2", x.go(0, 0), -1));
        WhiteBoard dead = Check.told(THREE);
        dead.go(0, 0);
        dead.write(0);
        dead.mornings(11);
        Edge.due("dead", dead.count(6), 1);
        Edge.refused("dead", dead, 1, () -> Edge.due("by an open way", dead.go(0, 1), -1));
        Edge.says(11, "NoSuchElementException (ahead): no such PERSON, WAY.");
        for (WhiteBoard y : new WhiteBoard[] {x, dead}) {
            Edge.refused("no such one", y, WhiteBoard.NONE, () -> Edge.noOther("person", 3, p -> y.go(p, 0)));
            Edge.refused("no such way", y, WhiteBoard.NONE, () -> Edge.noOther("way", 2, w -> y.go(0, w)));
            Edge.refused("no such way, away", y, WhiteBoard.NONE, () -> Edge.noOther("way", 2, w -> y.go(2, w)));
        }
    }

    private static void writing() {
        Edge.says(12, "The scribe WRITES: true.");
        Edge.says(Edge.TERMS, "the scribe WRITES a name (as of this DAY);");
        WhiteBoard x = Check.told(THREE);
        x.open(false);
        Edge.due("on a closed list", x.write(0), true);
        x.mornings(1);
        Edge.due("who is away", x.write(2), true);
        Edge.row("as of the day", new int[] {0, -1, 1}, p -> x.person(p, 3));
        Edge.row("by the scribe", new int[] {-2, -1, -2}, p -> x.person(p, 4));
        Edge.toDay(x, 60);
        Edge.due("on the last day", x.write(1), true);
        Edge.due("as of it", x.person(1, 3), 60);
        Edge.says(12, "False (STATUS 1): on THE LIST already.");
        for (int p = 0; p < 3; p++) {
            int who = p;
            Edge.refused("on it: " + who, x, 1, () -> Edge.due("write " + who, x.write(who), false));
        }
        WhiteBoard masters = Check.told(THREE);
        masters.mornings(2);
        Edge.refused("a master's name", masters, 1, () -> Edge.due("write", masters.write(0), false));
        Edge.refused("no such one", x, WhiteBoard.NONE, () -> Edge.noOther("write", 3, x::write));
    }

    private static void striking() {
        Edge.says(13, "STRUCK off: by which MASTER it was written (-2: the scribe).");
        Edge.says(Edge.TERMS, "one is STRUCK off (not DEAD);");
        WhiteBoard x = Check.told("master 1;master 1;master 1;place 5;sea;person 9 0;person 8 1;person 7 0;person 6 0;person 5 0;");
        x.mornings(1);
        x.write(3);
        Edge.row("by", new int[] {0, 1, 2, -2}, x::strike);
        Edge.due("nobody is left", x.count(5), 0);
        Edge.row("no day", new int[] {-1, -1, -1, -1, -1}, p -> x.person(p, 3));
        Edge.row("by nobody", new int[] {-1, -1, -1, -1, -1}, p -> x.person(p, 4));
        x.mornings(1);
        Edge.due("written anew, as of day 1", x.person(0, 3), 1);
        x.mornings(4);
        Edge.due("not found by the day before", x.count(6), 0);
        x.mornings(1);
        Edge.due("found by the new day", x.count(6), 1 + 4);
        Edge.says(13, "NONE (STATUS 1): not on THE LIST, DEAD.");
        x.strike(1);
        Edge.refused("not on it", x, 1, () -> Edge.due("strike 1", x.strike(1), -1));
        Edge.refused("dead", x, 1, () -> Edge.due("strike 0", x.strike(0), -1));
        Edge.refused("no such one", x, WhiteBoard.NONE, () -> Edge.noOther("strike", 5, x::strike));
    }

    private static void closing() {
        Edge.says(14, "Closed, or open: true.");
        Edge.says(Edge.TERMS, "THE LIST is closed, or open again.");
        WhiteBoard x = Check.told(THREE);
        Edge.due("closed", x.open(false), true);
        x.mornings(1);
        Edge.due("nobody is written", x.count(5), 0);
        Edge.due("open again", x.open(true), true);
        x.mornings(1);
        Edge.due("one is written", x.count(5), 4);
        Edge.says(14, "False (STATUS 1): it is so already.");
        Edge.refused("open", x, 1, () -> Edge.due("open(true)", x.open(true), false));
        x.open(false);
        Edge.refused("closed", x, 1, () -> Edge.due("open(false)", x.open(false), false));
    }

    private static void undoing() {
        Edge.says(15, "The last ACT is UNDONE: how many are left.");
        Edge.says(Edge.TERMS, "They are UNDONE, the last one first.");
        WhiteBoard x = Check.told(THREE);
        String[] states = new String[7];
        Runnable[] acts = {() -> x.mornings(3), () -> x.go(1, 1), () -> x.strike(1), () -> x.write(1),
            () -> x.open(false), () -> x.open(true)};
        for (int i = 0; i < acts.length; i++) {
            states[i] = Edge.state(x);
            acts[i].run();
            Edge.due("act " + i + " is kept", x.count(11), i + 1);
        }
        for (int i = acts.length - 1; i >= 0; i--) {
            Edge.due("undo " + i, x.undo(), i);
            Edge.due("all as ahead of act " + i, Edge.state(x).equals(states[i]), true);
        }
        x.mornings(1);
        Edge.due("what is undone is not done again", x.undo(), 0);
        Edge.says(15, "NONE: there is none.");
        Edge.refused("none is left", x, WhiteBoard.NONE, () -> Edge.due("undo", x.undo(), -1));
        x.mornings(0);
        x.go(0, 1);
        x.strike(0);
        x.open(true);
        Edge.due("what was refused is no act", x.undo(), -1);
        x.see(0, 0, true);
        x.image();
        x.restore();
        Edge.due("nor is what is seen, or an image", x.undo(), -1);
        Edge.due("nor is it undone", x.count(12), 1);
    }

    private static void fortyActs() {
        Edge.says(Edge.TERMS, "ACTS (at most 40 are kept, the latest ones):");
        for (int many : new int[] {39, 40, 41, 42, 79, 80, 81, 121, 130}) {
            WhiteBoard x = Check.told("place 9;place 9;way 0 1 60;person 1 0;");
            int[] places = new int[many];
            for (int i = 0; i < many; i++) {
                places[i] = x.person(0, 1);
                if (i % 4 == 2) {
                    x.open(x.count(9) == 0);
                } else {
                    x.go(0, 0);
                }
            }
            int kept = Math.min(40, many);
            Edge.due(many + " acts: kept", x.count(11), kept);
            for (int i = 1; i <= kept; i++) {
                Edge.due(many + " acts: undo " + i, x.undo(), kept - i);
                Edge.due(many + " acts: the place then", x.person(0, 1), places[many - i]);
            }
            Edge.due(many + " acts: no more", x.undo(), -1);
        }
    }

    private static void imaging() {
        Edge.says(42, "False: there is none.");
        WhiteBoard x = Check.told(THREE);
        Edge.refused("without", x, WhiteBoard.NONE, () -> Edge.due("restore", x.restore(), false));
        Edge.says(41, "The DAY, THE LIST, who wrote whom when, DEAD, PLACES of PEOPLE, DEBTS, SALES, whether it is open, ACTS and "
            + "what is SEEN are kept as an image,");
        x.mornings(3);
        x.go(1, 1);
        x.open(false);
        x.see(1, 2, true);
        String first = Edge.state(x);
        x.image();
        Edge.due("an image is no act", Edge.state(x).equals(first), true);
        x.open(true);
        x.mornings(20);
        x.strike(1);
        x.write(1);
        x.see(1, 2, false);
        Edge.says(42, "They are as the image again: true.");
        Edge.due("restore", x.restore(), true);
        Edge.due("all is as it was", Edge.state(x).equals(first), true);
        x.undo();
        x.undo();
        x.undo();
        x.forget();
        Edge.due("restore again", x.restore(), true);
        Edge.due("all is as it was again", Edge.state(x).equals(first), true);
        Edge.says(41, "in place of another one.");
        x.undo();
        x.undo();
        x.strike(1);
        String second = Edge.state(x);
        x.image();
        x.mornings(5);
        Edge.due("restore the other one", x.restore(), true);
        Edge.due("not the first one", Edge.state(x).equals(second), true);
        x.image();
        x.go(0, 1);
        x.restore();
        Edge.due("STATUS is in none", x.count(15), 1);
        Check.feed(x, "!");
        x.restore();
        Edge.due("the tape stays", x.count(13), 20);
    }

    /** An image has its own ACTS, and its own of what is SEEN, whatever comes behind it. */
    private static void imagesOfActs() {
        Edge.says(41, "ACTS and what is SEEN are kept as an image,");
        WhiteBoard x = Check.told("place 9;place 9;way 0 1 60;person 1 0;person 2 1;");
        x.go(0, 0);
        x.write(0);
        x.image();
        x.undo();
        x.undo();
        x.mornings(2);
        x.write(1);
        x.open(false);
        x.restore();
        Edge.due("two acts", x.count(11), 2);
        Edge.due("writing is undone", x.undo(), 1);
        Edge.due("not on the list", x.count(5), 0);
        Edge.due("gone yet", x.person(0, 1), 1);
        Edge.due("going is undone", x.undo(), 0);
        Edge.due("not gone", x.person(0, 1), 0);
        Edge.due("day 0", x.count(4), 0);
        for (int i = 0; i < 55; i++) {
            x.go(0, 0);
        }
        x.image();
        for (int i = 0; i < 25; i++) {
            x.go(1, 0);
        }
        x.restore();
        for (int left = 39; left >= 0; left--) {
            x.undo();
            Edge.due("with " + left + " left", x.person(0, 1), left % 2 == 0 ? 1 : 0);
        }
        x.forget();
        x.write(1);
        // 1 is on the list, 0 is not: each of these three is so, and would not be with one number of another.
        x.see(1, 29, true);
        x.see(0, 0, false);
        x.image();
        for (int other = 0; other < 3; other++) {
            x.forget();
            x.see(other == 0 ? 0 : 1, 29, other != 1);
            x.see(other == 2 ? 1 : 0, 0, false);
            Edge.due("not so", x.scribe(2), 0);
            x.restore();
            Edge.due("so", x.scribe(2), 1);
            Edge.due("two are seen", x.count(12), 2);
        }
        WhiteBoard days = Check.told("master 1;place 0;person 1 0;writes day=5;");
        days.see(0, 5, true);
        days.see(0, 4, false);
        days.image();
        days.forget();
        days.see(0, 4, true);
        days.see(0, 5, false);
        Edge.due("not so", days.scribe(2), 0);
        days.restore();
        Edge.due("so on these days", days.scribe(2), 1);
    }

    private static void sought() {
        Edge.says(39, "SOUGHT, as bits.");
        Edge.says(Edge.TERMS, "SOUGHT are those on THE LIST who are neither DEAD nor AWAY.");
        WhiteBoard x = Check.told("place 9;place 0;sea;way 0 2 60;" + "person 1 0;person 1 1;person 1 2;" + "person 1 1;".repeat(6));
        Edge.due("nobody is on it", x.sought(), 0);
        for (int p = 0; p < 9; p++) {
            x.write(p);
        }
        Edge.due("all but who is away", x.sought(), 511 - 4);
        x.mornings(2);
        Edge.due("and who is dead", x.sought(), 511 - 4 - 1);
        x.strike(8);
        Edge.due("and who is struck off", x.sought(), 511 - 4 - 1 - 256);
        WhiteBoard gone = Check.told("place 9;sea;way 0 1 60;person 1 0;");
        gone.write(0);
        gone.go(0, 0);
        Edge.due("away since", gone.sought(), 0);
        Edge.due("at first", new WhiteBoard().sought(), 0);
    }

    /** "An object is used for at most 512 calls": the last one is as good as the first one. */
    private static void manyCalls() {
        WhiteBoard x = Check.told("master 9;" + NINE);
        for (int call = 8; call <= 509; call++) {
            x.open(call % 2 != 0);
        }
        Check.due("call 510", x.count(11), 40);
        Check.due("call 511", x.undo(), 39);
        Check.due("call 512, closed again", x.when(0, 0), -1);
    }
}
