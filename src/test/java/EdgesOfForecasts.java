/** Boundary cases of what comes, if only MORNINGS go by: promises 16 to 20, 24, 25, 35 to 38. */
final class EdgesOfForecasts {
    private static final String MORNINGS = "(If only MORNINGS go by, 30 of them, or to the last DAY, if that is sooner; nobody GOES:)";
    /** By the masters 2 is written on day 0, 0 on day 1, 1 on day 2; 0 is found on day 2, 1 on day 12. */
    private static final String THREE = "master 10;place 9;place 0;sea;way 0 1 2;way 1 2 60;"
        + "person 50 0;person 5 1;person 90 2;";
    private static final String TWO = "master 0;place 0;person 9 0;person 8 0;writes ";

    private EdgesOfForecasts() {
    }

    static void all() {
        thirtyMornings();
        toTheLastDay();
        when();
        found();
        next();
        owes();
        instead();
        insteadOfTheThirtieth();
        toClose();
        spared();
        richest();
        worst();
        idle();
        stay();
        questions();
        anyPeople();
        anyMasters();
    }

    /** Thirty mornings are those of this day and 29 more. */
    private static void thirtyMornings() {
        Edge.says(Edge.TERMS, MORNINGS);
        for (int today : new int[] {0, 1, 29, 30}) {
            WhiteBoard x = Check.told(TWO + "(goods=9)*(day=" + (today + 29) + ")+(goods=8)*(day=" + (today + 30) + ");");
            Edge.toDay(x, today);
            boolean isLast = today == 30;
            Edge.row("on day " + today + ": when", new int[] {today + 29, -1}, p -> x.when(p, 0));
            Edge.row("on day " + today + ": next", new int[] {0, -1}, x::next);
            Edge.due("on day " + today + ": idle", x.idle(), today);
            if (!isLast) {
                x.mornings(1);
                Edge.row("a day later: when", new int[] {today + 29, today + 30}, p -> x.when(p, 0));
            }
        }
        WhiteBoard goes = Check.told("master 0;place 9;sea;way 0 1 60;person 9 0;");
        Edge.due("nobody goes", goes.found(0), 1);
    }

    private static void toTheLastDay() {
        Edge.says(Edge.TERMS, "or to the last DAY, if that is sooner;");
        WhiteBoard x = Check.told(TWO + "(goods=9)*(day=59)+(goods=8)*(day=60);");
        Edge.toDay(x, 31);
        Edge.row("the last morning is that of day 59: when", new int[] {59, -1}, p -> x.when(p, 0));
        Edge.toDay(x, 59);
        Edge.row("on day 59: when", new int[] {59, -1}, p -> x.when(p, 0));
        Edge.due("on day 59: next", x.next(0), 0);
        Edge.due("on day 59: idle", x.idle(), -1);
        Edge.toDay(x, 60);
        Edge.row("on day 60: when", new int[] {59, -1}, p -> x.when(p, 0));
        Edge.due("on day 60: next", x.next(0), -1);
        Edge.due("on day 60: idle", x.idle(), -1);
        x.write(1);
        Edge.due("on day 60: written by hand", x.when(1, 0), 60);
        Edge.due("on day 60: found", x.found(0), -1);
    }

    private static void when() {
        Edge.says(Edge.TERMS, "WHEN one is written: the DAY; by whom.");
        Edge.says(16, "WHEN: the DAY (what 0; as it was, if on THE LIST), by which MASTER (1; -2: the scribe); NONE: never.");
        WhiteBoard x = Check.told("master 1;master 1;place 0;sea;person 3 0;person 2 1;person 1 0;person 0 0;");
        Edge.row("the day", new int[] {0, 0, 1, -1}, p -> x.when(p, 0));
        Edge.row("by", new int[] {0, 1, 0, -1}, p -> x.when(p, 1));
        x.write(3);
        x.mornings(15);
        Edge.row("as it was: the day", new int[] {0, 0, 1, 0}, p -> x.when(p, 0));
        Edge.row("as it was: by", new int[] {0, 1, 0, -2}, p -> x.when(p, 1));
        Edge.due("dead, too", x.count(6), 1 + 4 + 8);
        x.strike(1);
        Edge.due("struck off: anew", x.when(1, 0), 15);
        Edge.due("by the first one", x.when(1, 1), 0);
        x.open(false);
        Edge.due("closed: never", x.when(1, 0), -1);
        Edge.due("closed: by nobody", x.when(1, 1), -1);
        Edge.says(16, "NoSuchElementException: also another what.");
        Edge.noOther("person", 4, p -> x.when(p, 0));
        Edge.noOther("what", 2, what -> x.when(0, what));
    }

    private static void found() {
        Edge.says(Edge.TERMS, "FOUND: on which DAY.");
        Edge.says(17, "FOUND: the DAY; NONE: never, DEAD already.");
        WhiteBoard x = Check.told(THREE);
        Edge.row("found", new int[] {2, 12, -1}, x::found);
        x.mornings(2);
        Edge.due("in this morning", x.found(0), 2);
        x.mornings(1);
        Edge.due("dead already", x.found(0), -1);
        WhiteBoard last = Check.told(TWO + "(goods=9)*(day=19)+(goods=8)*(day=20);");
        Edge.row("in the thirtieth morning, or none", new int[] {29, -1}, last::found);
        last.mornings(1);
        Edge.row("and a day later", new int[] {29, 30}, last::found);
        WhiteBoard end = Check.told(TWO + "(goods=9)*(day=49)+(goods=8)*(day=50);");
        Edge.toDay(end, 45);
        Edge.row("in the last morning, or none", new int[] {59, -1}, end::found);
        Edge.noOther("person", 3, x::found);
    }

    private static void next() {
        Edge.says(Edge.TERMS, "THE NEXT: the i-th name written from now on (0 on).");
        Edge.says(18, "THE NEXT; NONE: there are no more.");
        WhiteBoard x = Check.told(THREE);
        Edge.row("next", new int[] {2, 0, 1, -1, -1}, x::next);
        Edge.due("the most", x.next(Integer.MAX_VALUE), -1);
        x.mornings(1);
        Edge.row("from now on", new int[] {0, 1, -1}, x::next);
        x.write(0);
        Edge.row("who is on it isn't written", new int[] {1, -1}, x::next);
        WhiteBoard nine = Check.told("master 1;place 0;" + "person 1 0;".repeat(9));
        Edge.row("all nine", new int[] {0, 1, 2, 3, 4, 5, 6, 7, 8, -1}, nine::next);
        WhiteBoard two = Check.told("master 1;master 1;place 0;person 1 0;person 2 0;person 3 0;");
        Edge.row("of one morning in the masters' order", new int[] {2, 1, 0, -1}, two::next);
        Edge.says(18, "IllegalArgumentException: below 0.");
        Edge.illegal("-1", () -> x.next(-1));
        Edge.illegal("the least", () -> x.next(Integer.MIN_VALUE));
    }

    private static void owes() {
        Edge.says(Edge.TERMS, "OWES: the DEBT of a MASTER in so many MORNINGS (0 to 30).");
        Edge.says(19, "OWES.");
        WhiteBoard x = Check.told("master 99;place 9;person 20 0;person 10 0;writes goods;");
        Edge.row("in mornings", new int[] {99, 99, 79, 70, 70}, i -> x.owes(0, i));
        WhiteBoard last = Check.told("master 99;place 0;person 9 0;person 8 0;writes (goods=9)*(day=19)+(goods=8)*(day=20);");
        Edge.due("in 29", last.owes(0, 29), 99);
        Edge.due("in 30", last.owes(0, 30), 90);
        WhiteBoard end = Check.told("master 99;place 0;person 9 0;person 8 0;writes (goods=9)*(day=49)+(goods=8)*(day=50);");
        Edge.toDay(end, 45);
        Edge.due("on the last day", end.owes(0, 15), 90);
        Edge.due("to the last day", end.owes(0, 30), 90);
        Edge.toDay(end, 60);
        Edge.due("no morning is left", end.owes(0, 30), 90);
        Edge.says(19, "IllegalArgumentException (behind NoSuchElementException): not 0 to 30.");
        for (int mornings : new int[] {-1, 31, Integer.MIN_VALUE, Integer.MAX_VALUE}) {
            Edge.illegal("in " + mornings, () -> x.owes(0, mornings));
            Edge.noSuch("of master 1, in " + mornings, () -> x.owes(1, mornings));
        }
        Edge.noOther("master", 1, m -> x.owes(m, 0));
    }

    private static void instead() {
        Edge.says(Edge.TERMS, "INSTEAD of one who is not on THE LIST: were WRITES for that one never more than 0: the first name "
            + "written then that is another one than now, at its place in the order of names; none.");
        Edge.says(20, "INSTEAD; NONE: none, on THE LIST.");
        String three = "master 1;place 0;person 9 0;person 8 0;person 7 0;person 0 0;";
        WhiteBoard x = Check.told(three);
        Edge.row("all are written at last: instead of", new int[] {1, 2, -1, -1}, x::instead);
        WhiteBoard two = Check.told(three + "writes goods*(listed<2);");
        Edge.row("two are: instead of", new int[] {1, 2, -1, -1}, two::instead);
        WhiteBoard later = Check.told(three + "writes goods*(goods=9)*(day=0)+goods*(goods=7)*(day=5);");
        Edge.row("on another day, the first of the names: instead of", new int[] {2, -1, -1, -1}, later::instead);
        WhiteBoard brings = Check.told("master 1;place 0;person 9 0;person 8 0;kin 0 1;writes (goods=9)+(goods=8)*kin;");
        Edge.row("who is written by it isn't without", new int[] {-1, -1}, brings::instead);
        WhiteBoard keeps = Check.told(three + "writes (goods=9)+2*(goods=8)*(listed=0)*(day=1)+(goods=7)*(listed=1);");
        Edge.row("one who else would never be written: instead of", new int[] {1, -1, -1, -1}, keeps::instead);
        x.mornings(1);
        Edge.due("on it", x.instead(0), -1);
        Edge.due("from now on", x.instead(1), 2);
        x.open(false);
        Edge.due("closed", x.instead(1), -1);
        Edge.noOther("person", 4, x::instead);
    }

    private static void insteadOfTheThirtieth() {
        Edge.says(Edge.TERMS, "INSTEAD of one who is not on THE LIST:");
        for (int day = 28; day <= 31; day++) {
            WhiteBoard x = Check.told(TWO + "(goods=9)*(day=0)+(goods=8)*(day=" + day + ");");
            Edge.due("another one on day " + day, x.instead(0), day < 30 ? 1 : -1);
        }
        WhiteBoard last = Check.told(TWO + "(goods=9)*(day=58)+(goods=8)*(59<day);");
        Edge.toDay(last, 58);
        Edge.due("another one on day 60", last.instead(0), -1);
    }

    private static void toClose() {
        Edge.says(Edge.TERMS, "TO CLOSE: the latest DAY, from this one on (30 from now at most, 60 at most), on which THE LIST, closed "
            + "ahead of its MORNING, has no more than so many (0 to 9) DEAD, all together, behind the 30 MORNINGS: none.");
        Edge.says(24, "TO CLOSE; NONE: none.");
        WhiteBoard x = Check.told("master 0;place 9;person 9 0;person 8 0;person 7 0;writes goods*(9<day);");
        Edge.row("no more than", new int[] {10, 11, 12, 30, 30, 30, 30, 30, 30, 30}, x::close);
        Edge.toDay(x, 10);
        Edge.row("on day 10, no more than", new int[] {10, 11, 12, 40}, x::close);
        x.mornings(1);
        Edge.row("on day 11, one is written, no more than", new int[] {-1, 11, 12, 41}, x::close);
        Edge.toDay(x, 13);
        Edge.row("two are dead already, the third is written, no more than", new int[] {-1, -1, -1, 43}, x::close);
        for (int today : new int[] {0, 1, 29, 30, 31, 45, 59, 60}) {
            WhiteBoard any = Check.told(TWO + "0;");
            Edge.toDay(any, today);
            Edge.due("from day " + today + " on", any.close(0), Math.min(60, today + 30));
            any.open(false);
            Edge.due("closed yet on day " + today, any.close(0), Math.min(60, today + 30));
        }
        WhiteBoard late = Check.told("master 0;place 9;person 9 0;person 8 0;writes (goods=9)*(day=28)+(goods=8)*(day=29);");
        Edge.row("written in the thirtieth morning, not dead behind it: no more than", new int[] {28, 30}, late::close);
        WhiteBoard end = Check.told("master 0;place 9;person 9 0;person 8 0;writes (goods=9)*(day=58)+(goods=8)*(day=59);");
        Edge.toDay(end, 50);
        Edge.row("behind the last morning: no more than", new int[] {58, 60}, end::close);
        Edge.toDay(end, 60);
        Edge.row("on day 60: no more than", new int[] {-1, 60}, end::close);
        WhiteBoard all = Check.told("place 9;" + "person 1 0;".repeat(9));
        for (int p = 0; p < 9; p++) {
            all.write(p);
        }
        Edge.row("nine", new int[] {-1, -1, -1, -1, -1, -1, -1, -1, -1, 30}, all::close);
        Edge.says(24, "IllegalArgumentException: not 0 to 9.");
        for (int dead : new int[] {-1, 10, Integer.MIN_VALUE, Integer.MAX_VALUE}) {
            Edge.illegal("dead " + dead, () -> x.close(dead));
        }
    }

    private static void spared() {
        Edge.says(Edge.TERMS, "SPARED: those who, were THE LIST closed now, would not be DEAD in 30 MORNINGS, but are, if it isn't (bits).");
        Edge.says(25, "SPARED, as bits.");
        WhiteBoard x = Check.told("master 0;place 9;sea;person 9 0;person 8 0;person 7 1;person 0 0;");
        Edge.due("all who will be found", x.spared(), 3);
        x.mornings(1);
        Edge.due("but for who is on it", x.spared(), 2);
        x.mornings(1);
        Edge.due("and who is dead", x.spared(), 0);
        Edge.due("the dead one", x.count(6), 1);
        WhiteBoard scribes = Check.told("master 0;place 9;person 9 0;person 8 0;");
        scribes.write(1);
        Edge.due("but for the scribe's", scribes.spared(), 1);
        scribes.open(false);
        Edge.due("closed already", scribes.spared(), 0);
        WhiteBoard last = Check.told("master 0;place 9;person 9 0;person 8 0;writes (goods=9)*(day=28)+(goods=8)*(day=29);");
        Edge.due("found in the thirtieth morning", last.spared(), 1);
        last.mornings(1);
        Edge.due("a day later", last.spared(), 3);
        Edge.due("at first", new WhiteBoard().spared(), 0);
    }

    private static void richest() {
        Edge.says(Edge.TERMS, "RICHEST: the MASTER for whose names SALES bring most in 30 MORNINGS from now on (whatever he owes; of like "
            + "ones the least; none, if to none anything).");
        Edge.says(35, "RICHEST; NONE: none.");
        richestIs("master 0;master 999;place 9;person 12 0;person 12 0;", 0, 0);
        richestIs("master 0;master 999;place 9;person 11 0;person 12 0;writes 100-goods;", 0, 0);
        richestIs("master 0;master 999;place 9;person 10 0;person 13 0;writes 100-goods;", 0, 1);
        richestIs("master 0;master 999;place 9;person 10 0;person 12 0;", 0, 0);
        richestIs("master 999;master 0;place 9;person 10 0;person 11 0;", 0, 1);
        richestIs("master 5;place 9;person 0 0;writes 1;", 0, -1);
        richestIs("master 5;master 5;place 9;person 0 0;person 2 0;writes 9-goods;", 0, 1);
        richestIs("master 5;place 9;person 9 0;", 1, 0);
        richestIs("master 5;place 9;person 9 0;", 2, -1);
        richestIs("master 5;place 9;person 9 0;writes day=28;", 0, 0);
        richestIs("master 5;place 9;person 9 0;writes day=29;", 0, -1);
        richestIs("master 5;place 9;person 9 0;writes day=29;", 1, 0);
        richestIs("master 5;place 9;person 9 0;writes day=58;", 58, 0);
        richestIs("master 5;place 9;person 9 0;writes day=59;", 58, -1);
        richestIs("place 9;person 9 0;", 0, -1);
        WhiteBoard scribes = Check.told("master 5;place 9;person 50 0;person 3 0;person 2 0;");
        scribes.write(0);
        Edge.due("the scribe's bring him nothing", scribes.richest(), 0);
        scribes.open(false);
        Edge.due("nor anybody", scribes.richest(), -1);
    }

    private static void richestIs(String text, int today, int due) {
        WhiteBoard x = Check.told(text);
        Edge.toDay(x, today);
        Edge.due("on day " + today + " of " + text, x.richest(), due);
    }

    private static void worst() {
        Edge.says(Edge.TERMS, "(If only MORNINGS go by, 30, or to the last DAY:) THE WORST MORNING: the DAY of that in which most are FOUND (of "
            + "like ones the first): how many; none, if nobody is.");
        Edge.says(36, "THE WORST MORNING: the DAY (what 0; NONE), how many (1; 0: nobody).");
        WhiteBoard x = Check.told("master 0;master 0;place 9;person 9 0;person 8 0;person 7 0;");
        Edge.row("two, then one", new int[] {1, 2}, x::worst);
        x.mornings(1);
        Edge.row("in this morning", new int[] {1, 2}, x::worst);
        x.mornings(1);
        Edge.row("one is left", new int[] {2, 1}, x::worst);
        x.mornings(1);
        Edge.row("nobody is left", new int[] {-1, 0}, x::worst);
        WhiteBoard like = Check.told("master 0;place 9;person 9 0;person 8 0;");
        Edge.row("the first of like ones", new int[] {1, 1}, like::worst);
        WhiteBoard more = Check.told("master 0;place 9;place 8;person 9 0;person 8 1;person 7 0;");
        Edge.row("a later one with more", new int[] {3, 2}, more::worst);
        WhiteBoard last = Check.told(TWO + "(goods=9)*(day=19)+(goods=8)*(day=20);");
        Edge.row("in the thirtieth morning", new int[] {29, 1}, last::worst);
        WhiteBoard beyond = Check.told(TWO + "day=20;");
        Edge.row("behind it", new int[] {-1, 0}, beyond::worst);
        Edge.toDay(beyond, 1);
        Edge.row("a day later", new int[] {30, 1}, beyond::worst);
        WhiteBoard end = Check.told("master 0;place 9;person 9 0;person 8 0;writes (goods=9)*(day=58)+(goods=8)*(day=59);");
        Edge.toDay(end, 58);
        Edge.row("in the last morning", new int[] {59, 1}, end::worst);
        Edge.toDay(end, 60);
        Edge.row("on day 60", new int[] {-1, 0}, end::worst);
        Edge.says(36, "NoSuchElementException: another what.");
        Edge.noOther("what", 2, x::worst);
    }

    private static void idle() {
        Edge.says(Edge.TERMS, "IDLE: the DAY of the first MORNING in which nobody is written; none.");
        Edge.says(37, "IDLE; NONE: none.");
        WhiteBoard x = Check.told("master 1;place 0;person 1 0;person 1 0;person 1 0;");
        Edge.due("behind three names", x.idle(), 3);
        x.mornings(1);
        Edge.due("a day later", x.idle(), 3);
        x.mornings(3);
        Edge.due("all are written", x.idle(), 4);
        x.undo();
        x.open(false);
        Edge.due("closed", x.idle(), 1);
        WhiteBoard between = Check.told("master 1;place 0;person 1 0;person 1 0;writes not day=1;");
        Edge.due("between two names", between.idle(), 1);
        WhiteBoard last = Check.told("master 1;place 0;person 1 0;");
        Edge.toDay(last, 59);
        Edge.due("the last morning", last.idle(), 59);
        Edge.toDay(last, 60);
        Edge.due("no morning", last.idle(), -1);
        WhiteBoard busy = Check.told("master 1;place 0;person 1 0;writes 51<day;");
        Edge.toDay(busy, 59);
        busy.strike(0);
        Edge.due("one is written in the one morning that is left", busy.idle(), -1);
    }

    private static void stay() {
        Edge.says(Edge.TERMS, "A STAY: on which DAY one would be FOUND, were one at a told PLACE now, and stayed there (written as told by "
            + "WHEN); none, also at the SEA.");
        Edge.says(38, "A STAY; NONE: none, DEAD.");
        WhiteBoard x = Check.told("master 0;place 9;place 3;place 0;sea;person 9 1;person 8 3;person 0 0;");
        Edge.row("0, written on day 0, at", new int[] {1, 7, 10, -1}, p -> x.stay(0, p));
        Edge.row("1, away now, at", new int[] {2, 8, 11, -1}, p -> x.stay(1, p));
        Edge.row("2, never written, at", new int[] {-1, -1, -1, -1}, p -> x.stay(2, p));
        x.mornings(5);
        Edge.row("on day 5, where it is late already, at", new int[] {5, 7, 10, -1}, p -> x.stay(0, p));
        x.write(2);
        Edge.row("the scribe's, at", new int[] {6, 12, 15, -1}, p -> x.stay(2, p));
        x.mornings(3);
        Edge.due("dead", x.count(6), 1 + 4);
        Edge.row("dead, at", new int[] {-1, -1, -1, -1}, p -> x.stay(0, p));
        WhiteBoard last = Check.told(TWO + "(goods=9)*(day=19)+(goods=8)*(day=20);");
        Edge.row("in the thirtieth morning, or none", new int[] {29, -1}, p -> last.stay(p, 0));
        WhiteBoard end = Check.told(TWO + "(goods=9)*(day=49)+(goods=8)*(day=50);");
        Edge.toDay(end, 45);
        Edge.row("in the last morning, or none", new int[] {59, -1}, p -> end.stay(p, 0));
        Edge.noOther("person", 3, p -> x.stay(p, 0));
        Edge.noOther("place", 4, p -> x.stay(1, p));
        Edge.noOther("place of who is dead", 4, p -> x.stay(0, p));
    }

    /** No question changes anything. */
    private static void questions() {
        WhiteBoard x = Check.told(THREE + "writes goods;");
        x.see(0, 1, true);
        x.mornings(1);
        Runnable[] all = {() -> x.when(0, 0), () -> x.found(1), () -> x.next(0), () -> x.owes(0, 30), () -> x.instead(0),
            () -> x.close(0), x::spared, x::richest, () -> x.worst(0), x::idle, () -> x.stay(0, 0), () -> x.out(0), () -> x.gate(0),
            () -> x.surest(0, 9), () -> x.scribe(0), () -> x.scribe(2), () -> x.tells(1), () -> x.lists(1, 60, 0), () -> x.roll(50),
            () -> x.far(0, 2), () -> x.refuge(0), x::sought, () -> x.steps(0, 1), () -> x.grudge(0, 0), x::fault, x::image};
        for (int i = 0; i < all.length; i++) {
            Edge.refused("question " + i, x, WhiteBoard.NONE, all[i]);
        }
    }

    /** One of nine has goods, and is the one of whom all is told. */
    private static void anyPeople() {
        Edge.says(Edge.TERMS, "PEOPLE 0, 1 .. (at most 9)");
        for (int who = 0; who < 9; who++) {
            int one = who;
            StringBuilder text = new StringBuilder("master 5;place 9;");
            for (int p = 0; p < 9; p++) {
                text.append("person ").append(p == who ? 9 : 0).append(" 0;");
            }
            WhiteBoard x = Check.told(text.toString());
            Edge.row("when " + who, new int[] {0, 0}, what -> x.when(one, what));
            Edge.row("found", new int[] {1, -1, -1, -1, -1, -1, -1, -1, -1}, p -> x.found((p + one) % 9));
            Edge.row("next", new int[] {who, -1}, x::next);
            Edge.row("owes", new int[] {5, 5, 0}, i -> x.owes(0, i));
            Edge.row("close", new int[] {0, 30}, x::close);
            Edge.due("spared", x.spared(), 1 << who);
            Edge.due("richest", x.richest(), 0);
            Edge.row("worst", new int[] {1, 1}, x::worst);
            Edge.due("idle", x.idle(), 1);
            Edge.due("stay", x.stay(who, 0), 1);
            Edge.due("surest", x.surest(who, 2), 1);
            x.open(false);
            x.see(who, 0, true);
            Edge.row("scribe", new int[] {1, 100 * who, 0}, x::scribe);
            Edge.row("tells", new int[] {0, 1}, x::tells);
            x.open(true);
            x.mornings(1);
            Edge.due("listed", x.count(5), 1 << who);
            Edge.due("sought", x.sought(), 1 << who);
            Edge.due("he wrote", x.master(0, 3), 1 << who);
            Edge.due("as seen", x.scribe(2), 1);
            x.mornings(1);
            Edge.due("dead", x.count(6), 1 << who);
            Edge.due("roll", x.roll(9), 1 << who);
            Edge.due("dead at the end", x.lists(3, 0, 0), 1);
        }
    }

    /** One of three has a debt, and writes. */
    private static void anyMasters() {
        Edge.says(Edge.TERMS, "MASTERS 0, 1 .. (at most 3)");
        for (int who = 0; who < 3; who++) {
            int one = who;
            StringBuilder text = new StringBuilder();
            for (int m = 0; m < 3; m++) {
                text.append("master ").append(m == who ? 20 : 0).append(';');
            }
            WhiteBoard x = Check.told(text + "place 9;person 9 0;friend " + who + " 0;writes debt*friend;");
            Edge.row("when", new int[] {0, who}, what -> x.when(0, what));
            Edge.row("owes", new int[] {20, 20, 11}, i -> x.owes(one, i));
            Edge.due("richest", x.richest(), who);
            x.mornings(2);
            Edge.row("of " + who, new int[] {11, 1, 0, 1}, what -> x.master(one, what));
            Edge.row("of the next one", new int[] {0, 0, 0, 0}, what -> x.master((one + 1) % 3, what));
            Edge.due("all owe", x.lists(1, 9, 1), 11);
        }
    }
}
