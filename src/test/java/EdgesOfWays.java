/** Boundary cases of ways out, gates, the surest days, how far it is, the refuge: promises 21 to 23, 33, 34. */
final class EdgesOfWays {
    private static final String LINE = "place 3;place 4;sea;way 0 1 5;way 1 2 7;person 1 0;person 1 2;";

    private EdgesOfWays() {
    }

    static void all() {
        awayNow();
        oneWayEachDay();
        unfoundOnTheWay();
        anyPlaces();
        onTheLastDay();
        theDeadStay();
        gates();
        surest();
        surestDays();
        surestList();
        surestGates();
        surestLastDays();
        far();
        refuge();
    }

    private static void awayNow() {
        Edge.says(Edge.TERMS, "A WAY OUT: one GOES each DAY, ahead of its MORNING, by one WAY, or stays: the soonest DAY (30 from now at most, 60 at "
            + "most; on the last one one may still GO) on which one may be AWAY without being FOUND (this one, if AWAY now; the "
            + "name is written as told by WHEN): none.");
        Edge.says(21, "A WAY OUT: the DAY; NONE: none, DEAD.");
        WhiteBoard x = Check.told(LINE);
        Edge.due("away now", x.out(1), 0);
        Edge.toDay(x, 33);
        Edge.due("away now, on day 33", x.out(1), 33);
        Edge.toDay(x, 60);
        Edge.due("away now, on the last day", x.out(1), 60);
        WhiteBoard alone = Check.told("place 0;sea;person 1 0;");
        Edge.due("no way", alone.out(0), -1);
        WhiteBoard dry = Check.told("place 0;place 0;way 0 1 60;person 1 0;");
        Edge.due("no sea", dry.out(0), -1);
        Edge.due("no sea, no gate", dry.gate(0), -1);
        Edge.noOther("person", 2, x::out);
    }

    private static void oneWayEachDay() {
        Edge.says(Edge.TERMS, "one GOES each DAY, ahead of its MORNING, by one WAY, or stays:");
        StringBuilder text = new StringBuilder("sea;" + "place 0;".repeat(7));
        for (int p = 0; p < 7; p++) {
            text.append("way ").append(p).append(' ').append(p + 1).append(" 60;");
        }
        WhiteBoard row = Check.told(text + "person 1 1;person 1 4;person 1 7;");
        Edge.row("one, four, seven ways", new int[] {0, 3, 6}, row::out);
        row.mornings(10);
        Edge.row("ten days later", new int[] {10, 13, 16}, row::out);
        WhiteBoard x = Check.told(LINE);
        Edge.due("two ways", x.out(0), 1);
        x.mornings(4);
        Edge.due("the first gate is open on day 4, the second one on day 5", x.out(0), 5);
        x.mornings(1);
        Edge.due("the first one is shut on day 5", x.out(0), -1);
        WhiteBoard second = Check.told("place 3;place 4;sea;way 0 1 60;way 2 1 1;person 1 0;");
        Edge.due("the second one is shut on day 1", second.out(0), -1);
        WhiteBoard later = Check.told("place 3;place 4;sea;way 0 1 60;way 2 1 2;person 1 0;");
        Edge.due("the second one is shut on day 2", later.out(0), 1);
        WhiteBoard both = Check.told("sea;place 0;place 0;way 0 1 9;way 2 1 9;person 1 2;");
        Edge.due("a way leads both ways", both.out(0), 1);
    }

    /** Of places 0 to 2, one has a danger of 9: it can be left on the day on which it is come to, or not. */
    private static void unfoundOnTheWay() {
        Edge.says(Edge.TERMS, "on which one may be AWAY without being FOUND");
        WhiteBoard first = Check.told("place 9;place 0;sea;way 0 1 60;way 1 2 60;person 9 0;");
        first.write(0);
        Edge.due("off in time", first.out(0), 1);
        first.mornings(1);
        Edge.due("gone ahead of the morning of day 1", first.out(0), 2);
        WhiteBoard back = Check.told("place 9;place 9;sea;way 0 1 60;way 1 2 60;person 9 1;");
        back.write(0);
        back.mornings(1);
        Edge.due("away ahead of the morning in which one is found", back.out(0), 1);
        back.go(0, 0);
        Edge.due("found in that morning at 0", back.out(0), -1);
        WhiteBoard middle = Check.told("place 1;place 9;place 9;sea;way 0 1 60;way 1 2 60;way 2 3 60;person 9 0;");
        middle.write(0);
        Edge.due("found on day 1 at 2", middle.out(0), -1);
        Edge.due("no gate helps", middle.gate(0), -1);
        String ofMasters = "master 0;place 9;place 9;place 9;sea;way 0 1 60;way 1 2 60;way 2 3 60;person 9 0;writes day=";
        Edge.due("written on day 0, found on day 1", Check.told(ofMasters + "0;").out(0), -1);
        Edge.due("written on day 1, found on day 2, gone by then", Check.told(ofMasters + "1;").out(0), 2);
        Edge.due("written when one is gone", Check.told(ofMasters + "2;").out(0), 2);
        WhiteBoard off = Check.told("place 9;place 9;sea;way 0 1 60;way 1 2 60;person 9 0;");
        off.mornings(20);
        Edge.due("who is never written is never found", off.out(0), 21);
        WhiteBoard late = Check.told("place 0;place 0;place 0;sea;way 0 1 60;way 1 2 60;way 2 3 60;person 9 0;");
        late.write(0);
        late.mornings(8);
        Edge.due("10 days at no danger are enough, too: away on day 10", late.out(0), 10);
        late.mornings(1);
        Edge.due("found on day 10", late.out(0), -1);
    }

    /** The places from which one goes, through which, and to which have any numbers. */
    private static void anyPlaces() {
        Edge.says(Edge.TERMS, "PLACES 0, 1 .. (at most 8)");
        for (int from = 0; from < 8; from++) {
            int through = (from + 3) % 8;
            int sea = (from + 5) % 8;
            StringBuilder text = new StringBuilder();
            for (int p = 0; p < 8; p++) {
                text.append(p == sea ? "sea;" : p == through ? "place 9;" : p == from ? "place 2;" : "place 8;");
            }
            text.append("way ").append(through).append(' ').append(from).append(" 60;");
            text.append("way ").append(sea).append(' ').append(through).append(" 60;");
            text.append("person 9 ").append(from).append(";person 9 ").append(through).append(';');
            WhiteBoard x = Check.told(text.toString());
            x.write(0);
            x.write(1);
            Edge.row("from " + from + " and " + through, new int[] {1, 0}, x::out);
            Edge.row("the surest day from " + from, new int[] {8, 64, 512}, i -> x.surest(0, i + 1));
            Edge.row("the surest day from " + through, new int[] {10, 100}, i -> x.surest(1, i + 1));
            Edge.due("far", x.far(from, sea), 2);
            Edge.row("refuge", new int[] {sea, sea}, x::refuge);
            x.mornings(1);
            Edge.row("found in the second morning at " + through + ", from " + from, new int[] {-1, 1}, x::out);
        }
    }

    private static void onTheLastDay() {
        Edge.says(Edge.TERMS, "60 at most; on the last one one may still GO)");
        WhiteBoard x = Check.told("place 0;place 0;sea;way 0 1 60;way 1 2 60;person 1 0;person 1 1;person 1 2;");
        Edge.toDay(x, 58);
        Edge.row("on day 58", new int[] {59, 58, 58}, x::out);
        x.mornings(1);
        Edge.row("on day 59", new int[] {-1, 59, 59}, x::out);
        Edge.row("were a gate never shut, one may go on day 60", new int[] {1, -1, -1}, x::gate);
        x.mornings(1);
        Edge.row("on day 60 all gates are shut", new int[] {-1, -1, 60}, x::out);
        Edge.row("but one that were not", new int[] {-1, 1, -1}, x::gate);
    }

    private static void theDeadStay() {
        Edge.says(22, "The GATE: the WAY; NONE: none, there is A WAY OUT, DEAD.");
        WhiteBoard x = Check.told("place 9;sea;way 0 1 60;person 9 0;");
        x.write(0);
        x.mornings(2);
        Edge.due("dead beside the sea: no way out", x.out(0), -1);
        Edge.due("dead beside the sea: no gate", x.gate(0), -1);
        WhiteBoard shut = Check.told("place 9;sea;way 0 1 0;person 9 0;person 9 0;");
        shut.write(0);
        shut.mornings(2);
        Edge.row("dead, and not, behind a gate that is shut", new int[] {-1, 0}, shut::gate);
        Edge.due("there is a way out", Check.told("place 9;sea;way 0 1 1;person 9 0;").gate(0), -1);
        Edge.due("away now", Check.told("place 9;sea;way 0 1 0;person 9 1;").gate(0), -1);
        Edge.noOther("person", 2, shut::gate);
    }

    private static void gates() {
        Edge.says(Edge.TERMS, "The GATE that shuts it: if there is none, the first WAY by which, were its GATE never shut, there would be one; none.");
        String two = "place 1;place 1;sea;sea;person 1 0;";
        Edge.due("the first of two", Check.told(two + "way 0 3 0;way 0 2 0;").gate(0), 0);
        Edge.due("the second one", Check.told(two + "way 0 1 0;way 0 2 0;").gate(0), 1);
        Edge.due("the second one of a walk", Check.told(two + "way 0 1 9;way 1 2 1;").gate(0), 1);
        Edge.due("the first one of a walk", Check.told(two + "way 0 1 0;way 1 2 9;").gate(0), 0);
        Edge.due("both of a walk: none", Check.told(two + "way 0 1 0;way 1 2 0;").gate(0), -1);
        Edge.due("the other one's gate is shut on day 1", Check.told(two + "way 0 1 0;way 1 2 1;").gate(0), -1);
        Edge.due("none leads there", Check.told(two + "way 2 3 0;").gate(0), -1);
        WhiteBoard found = Check.told("place 9;place 9;sea;way 0 1 0;way 1 2 60;person 9 0;");
        found.write(0);
        Edge.due("day 0 to 1, day 1 to the sea, ahead of the morning", found.gate(0), 0);
        found.mornings(1);
        Edge.due("found on day 1", found.gate(0), -1);
        WhiteBoard last = Check.told("place 1;sea;" + "place 1;".repeat(6) + "way 2 3 0;way 3 4 0;way 4 5 0;way 5 6 0;way 6 7 0;way 7 2 0;"
            + "way 0 2 0;way 0 3 0;way 0 4 0;way 0 5 0;way 0 6 0;way 0 1 0;person 1 0;");
        Edge.due("the twelfth", last.gate(0), 11);
    }

    private static void surest() {
        Edge.says(Edge.TERMS, "SUREST: in so many DAYS (1 to 9) from now, if one on THE LIST were found in each MORNING with as many tenths as the DANGER "
            + "of the PLACE where one is then (whatever the DAYS), AWAY never: the greatest chance not to be found, by GOING or "
            + "staying each DAY ahead of its MORNING: as so many of 10 to the power of these DAYS.");
        Edge.says(23, "SUREST; 0: DEAD.");
        for (int danger = 0; danger <= 9; danger++) {
            WhiteBoard x = Check.told("place " + danger + ";person 9 0;");
            x.write(0);
            int due = 1;
            for (int days = 1; days <= 9; days++) {
                due *= 10 - danger;
                Edge.due("at " + danger + " in " + days, x.surest(0, days), due);
            }
        }
        WhiteBoard old = Check.told("place 1;person 9 0;");
        old.write(0);
        old.mornings(8);
        Edge.due("whatever the days", old.surest(0, 9), 387420489);
        WhiteBoard away = Check.told("place 9;sea;way 0 1 60;person 9 1;");
        away.write(0);
        Edge.due("away never", away.surest(0, 9), 1000000000);
        WhiteBoard dead = Check.told("place 9;sea;way 0 1 60;person 9 0;");
        dead.write(0);
        dead.mornings(2);
        Edge.row("dead", new int[] {0, 0}, i -> dead.surest(0, 1 + 8 * i));
        WhiteBoard walk = Check.told("place 9;place 9;place 1;way 0 1 60;way 1 2 60;person 9 0;");
        walk.write(0);
        Edge.due("the worse first, in one day", walk.surest(0, 1), 1);
        Edge.due("the worse first, in two days", walk.surest(0, 2), 9);
        Edge.due("the worse first, in three days", walk.surest(0, 3), 81);
        WhiteBoard stay = Check.told("place 5;place 6;place 0;way 0 1 60;way 1 2 60;person 9 0;");
        stay.write(0);
        Edge.row("staying is better in one day, going in two, three", new int[] {5, 40, 400}, i -> stay.surest(0, i + 1));
    }

    private static void surestDays() {
        Edge.says(23, "IllegalArgumentException (behind NoSuchElementException): not 1 to 9.");
        WhiteBoard x = Check.told("place 9;person 9 0;person 9 0;");
        x.write(1);
        x.mornings(2);
        for (int days : new int[] {0, 10, -1, Integer.MIN_VALUE, Integer.MAX_VALUE}) {
            Edge.illegal("in " + days, () -> x.surest(0, days));
            Edge.illegal("dead, in " + days, () -> x.surest(1, days));
            Edge.noSuch("2 in " + days, () -> x.surest(2, days));
        }
        Edge.noOther("person", 2, p -> x.surest(p, 1));
        Edge.due("one day", x.surest(0, 1), 10);
        Edge.due("nine days", x.surest(0, 9), 1000000000);
    }

    private static void surestList() {
        Edge.says(Edge.TERMS, "(One is on THE LIST from the DAY on as told by WHEN.");
        WhiteBoard x = Check.told("master 0;place 4;person 9 0;writes day=3;");
        Edge.due("ahead of that day", x.surest(0, 3), 1000);
        Edge.due("on that day", x.surest(0, 4), 6000);
        Edge.due("and behind it", x.surest(0, 5), 36000);
        x.mornings(3);
        Edge.due("on it, this day", x.surest(0, 1), 6);
        x.open(false);
        Edge.due("never, if closed", x.surest(0, 1), 10);
        x.write(0);
        Edge.due("by hand", x.surest(0, 2), 36);
        WhiteBoard ninth = Check.told("master 0;place 4;person 9 0;writes day=8;");
        Edge.due("on the ninth day", ninth.surest(0, 9), 600000000);
        WhiteBoard tenth = Check.told("master 0;place 4;person 9 0;writes day=9;");
        Edge.due("behind the ninth day", tenth.surest(0, 9), 1000000000);
    }

    private static void surestGates() {
        Edge.says(Edge.TERMS, "GATES are shut as told; who is AWAY stays so.)");
        for (int gate = 0; gate <= 3; gate++) {
            WhiteBoard x = Check.told("place 9;place 8;place 0;way 0 1 60;way 1 2 " + gate + ";person 9 0;");
            x.write(0);
            Edge.due("shut on day " + gate, x.surest(0, 3), gate < 2 ? 8 : 200);
        }
        WhiteBoard away = Check.told("place 9;sea;place 0;way 0 1 1;way 1 2 60;person 9 0;");
        away.write(0);
        Edge.due("gone on this day, and away for good", away.surest(0, 9), 1000000000);
        away.mornings(1);
        Edge.due("shut on this day", away.surest(0, 2), 1);
    }

    private static void surestLastDays() {
        Edge.says(23, "SUREST;");
        WhiteBoard x = Check.told("place 4;place 2;sea;way 0 1 60;way 0 2 59;person 1 0;person 1 2;");
        Edge.toDay(x, 58);
        x.write(0);
        x.write(1);
        Edge.row("on day 58 to the sea", new int[] {10, 100}, i -> x.surest(0, i + 1));
        x.mornings(1);
        Edge.row("on day 59 to 1, and behind the last morning", new int[] {8, 64, 512}, i -> x.surest(0, i + 1));
        x.mornings(1);
        Edge.row("on day 60 all gates are shut", new int[] {6, 36, 216}, i -> x.surest(0, i + 1));
        Edge.row("away on day 60", new int[] {10, 100, 1000}, i -> x.surest(1, i + 1));
    }

    private static void far() {
        Edge.says(Edge.TERMS, "FAR: the fewest WAYS (GATES that are shut, too) from a PLACE to another one; none.");
        Edge.says(33, "FAR; NONE: none.");
        WhiteBoard x = Check.told("place 1;place 2;sea;place 3;place 4;way 0 1 0;way 1 2 0;way 2 3 9;");
        Edge.row("from 0 to", new int[] {0, 1, 2, 3, -1}, p -> x.far(0, p));
        Edge.row("from 3 to", new int[] {3, 2, 1, 0, -1}, p -> x.far(3, p));
        Edge.row("from 4 to", new int[] {-1, -1, -1, -1, 0}, p -> x.far(4, p));
        StringBuilder row = new StringBuilder("place 1;".repeat(8));
        for (int p = 0; p < 7; p++) {
            row.append("way ").append(p + 1).append(' ').append(p).append(" 0;");
        }
        WhiteBoard eight = Check.told(row.toString());
        Edge.row("to 7 from", new int[] {7, 6, 5, 4, 3, 2, 1, 0}, p -> eight.far(p, 7));
        WhiteBoard round = Check.told(row + "way 0 7 0;");
        Edge.row("the shorter way round", new int[] {0, 1, 2, 3, 4, 3, 2, 1}, p -> round.far(0, p));
        Edge.noOther("place", 5, p -> x.far(p, 0));
        Edge.noOther("other place", 5, p -> x.far(0, p));
    }

    private static void refuge() {
        Edge.says(Edge.TERMS, "REFUGE for one: the PLACE of least DANGER (the SEA is less than any) that one can come to by WAYS whose GATES are open "
            + "on this DAY, or is at (who is AWAY is at one alone; of like ones the least).");
        Edge.says(34, "REFUGE: the PLACE.");
        WhiteBoard x = Check.told("place 5;place 0;sea;place 4;way 0 3 4;way 3 1 3;way 1 2 1;person 1 0;person 1 2;person 1 1;");
        Edge.row("on day 0 the sea", new int[] {2, 2, 2}, x::refuge);
        x.mornings(1);
        Edge.row("on day 1 danger 0, or where one is away", new int[] {1, 2, 1}, x::refuge);
        x.mornings(2);
        Edge.row("on day 3 danger 4", new int[] {3, 2, 1}, x::refuge);
        x.mornings(1);
        Edge.row("on day 4 where one is", new int[] {0, 2, 1}, x::refuge);
        String like = "place 5;place 5;place 5;way 1 2 9;way 1 0 9;";
        WhiteBoard three = Check.told(like + "person 1 2;person 1 1;person 1 0;");
        Edge.row("of like ones the least", new int[] {0, 0, 0}, three::refuge);
        WhiteBoard seas = Check.told("sea;place 0;sea;sea;way 1 3 9;way 1 2 9;way 2 0 9;person 1 1;person 1 2;person 1 3;");
        Edge.row("of like seas the least, through none", new int[] {2, 2, 3}, seas::refuge);
        StringBuilder row = new StringBuilder("place 1;".repeat(7) + "place 0;");
        for (int p = 0; p < 7; p++) {
            row.append("way ").append(p).append(' ').append(p + 1).append(" 9;");
        }
        Edge.due("by seven ways", Check.told(row + "person 1 0;").refuge(0), 7);
        Edge.due("through the worse", Check.told("place 3;place 9;place 2;way 0 1 9;way 1 2 9;person 1 0;").refuge(0), 2);
        Edge.noOther("person", 3, x::refuge);
    }
}
