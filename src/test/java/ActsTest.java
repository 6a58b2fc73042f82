/** Promises 5 to 15, 39, 41, 42: what there is, acts and how they are undone, the image. */
public final class ActsTest {
    /** Nobody has a rule: the richest first. One of them is AWAY at first; the first way shuts on day 2. */
    private static final String THREE = "master 10;place 9;place 0;sea;way 0 1 2;way 1 2 60;"
        + "person 50 0;person 5 1;person 90 2;kin 0 1;kin 1 2;friend 0 1;foe 0 2;";

    public static void main(String[] args) {
        start();
        threeMornings();
        grudges();
        prices();
        going();
        writing();
        closing();
        undoing();
        latestActs();
        imaging();
        imageOfSeen();
        lastDay();
        refusals();
        Check.end("ActsTest");
    }

    private static void counts(String when, WhiteBoard x, int... due) {
        for (int what = 0; what < due.length; what++) {
            Check.due(when + ": count(" + what + ")", x.count(what), due[what]);
        }
    }

    private static void start() {
        WhiteBoard x = Check.told(THREE);
        counts("at first", x, 1, 3, 2, 3, 0, 0, 0, 4, 0, 1, 0, 0, 0, 0, 0, 0, 0);
        Check.noSuch("count(17)", () -> x.count(17));
        Check.noSuch("count(-1)", () -> x.count(-1));
        int[] master = {10, 2, 4, 0};
        for (int what = 0; what < 4; what++) {
            Check.due("master(0, " + what + ")", x.master(0, what), master[what]);
        }
        Check.noSuch("master(1, 0)", () -> x.master(1, 0));
        Check.noSuch("master(-1, 0)", () -> x.master(-1, 0));
        Check.noSuch("master(0, 4)", () -> x.master(0, 4));
        Check.noSuch("master(0, -1)", () -> x.master(0, -1));
        Check.due("ways whose gates are never open", Check.told("sea;sea;way 0 1 0;").place(0, 2), 1);
        int[][] places = {{9, 1, 1}, {0, 2, 2}, {-1, 4, 1}};
        for (int place = 0; place < 3; place++) {
            for (int what = 0; what < 3; what++) {
                Check.due("place(" + place + ", " + what + ")", x.place(place, what), places[place][what]);
            }
        }
        Check.noSuch("place(3, 0)", () -> x.place(3, 0));
        Check.noSuch("place(-1, 0)", () -> x.place(-1, 0));
        Check.noSuch("place(0, 3)", () -> x.place(0, 3));
        int[][] people = {{50, 0, 2, -1, -1, 50}, {5, 1, 5, -1, -1, 5}, {90, 2, 2, -1, -1, 90}};
        for (int person = 0; person < 3; person++) {
            for (int what = 0; what < 6; what++) {
                Check.due("person(" + person + ", " + what + ")", x.person(person, what), people[person][what]);
            }
        }
        Check.noSuch("person(3, 0)", () -> x.person(3, 0));
        Check.noSuch("person(-1, 0)", () -> x.person(-1, 0));
        Check.noSuch("person(0, 6)", () -> x.person(0, 6));
        Check.noSuch("person(0, -1)", () -> x.person(0, -1));
    }

    private static void threeMornings() {
        WhiteBoard x = Check.told(THREE);
        Check.due("the first morning", x.mornings(1), 1);
        counts("day 1", x, 1, 3, 2, 3, 1, 4, 0, 4, 0, 1, 3, 1, 0);
        Check.due("nobody is sought on day 1", x.sought(), 0);
        Check.due("the second morning", x.mornings(1), 2);
        counts("day 2", x, 1, 3, 2, 3, 2, 5, 0, 4, 0, 1, 2, 2, 0);
        Check.due("sought on day 2", x.sought(), 1);
        Check.due("written on day 1", x.person(0, 3), 1);
        Check.due("written by 0", x.person(0, 4), 0);
        Check.due("the third morning", x.mornings(1), 3);
        counts("day 3", x, 1, 3, 2, 3, 3, 7, 1, 4, 1, 1, 0, 3, 0);
        Check.due("sought on day 3", x.sought(), 2);
        Check.due("the debt is paid, not below 0", x.master(0, 0), 0);
        Check.due("his names", x.master(0, 3), 7);
        Check.due("to day 12", x.mornings(9), 12);
        Check.due("nobody more is dead on day 12", x.count(6), 1);
        Check.due("to day 13", x.mornings(1), 13);
        Check.due("0 and ten days are ten", x.count(6), 3);
        Check.due("sales", x.count(8), 2);
        Check.due("to day 33", x.mornings(20), 33);
        Check.due("who is away is never found", x.count(6), 3);
    }

    private static void grudges() {
        WhiteBoard x = Check.told(THREE);
        Check.due("without a rule", x.grudge(0, 0), 50);
        Check.noSuch("grudge(1, 0)", () -> x.grudge(1, 0));
        Check.noSuch("grudge(0, 3)", () -> x.grudge(0, 3));
        grudge("goods*100+debt", 5010);
        grudge("foe*10+friend", 10);
        WhiteBoard ties = Check.told("master 10;master 20;place 1;person 50 0;person 60 0;person 70 0;"
            + "friend 0 1;foe 0 2;foe 1 0;writes friend*1000+foe*100+debt;");
        int[][] due = {{10, 1010, 110}, {120, 20, 20}};
        for (int m = 0; m < 2; m++) {
            for (int p = 0; p < 3; p++) {
                Check.due("friend and foe of " + m + ", " + p, ties.grudge(m, p), due[m][p]);
            }
        }
        grudge("day*1000+sales*100+listed*10+kin", 0);
        grudge("7-2-1", 4);
        grudge("100/7/2", 7);
        grudge("2+3*4-8/2", 10);
        grudge("(2+3)*4", 20);
        grudge("(0-7)/2", -3);
        grudge("7/(1-1)", 0);
        grudge("0-7/2*2", -6);
        grudge("9999*9999*9999", 9999 * 9999 * 9999);
        grudge("(0-2147*1000*1000-483*1000-648)/(0-1)", Integer.MIN_VALUE);
        grudge("not 0", 1);
        grudge("not 5", 0);
        grudge("not not 5", 1);
        grudge("not 1<0", 1);
        grudge("1<2", 1);
        grudge("2<2", 0);
        grudge("2=2", 1);
        grudge("2=1+1", 1);
        grudge("5 and 7", 1);
        grudge("5 and 0", 0);
        grudge("0 and 5", 0);
        grudge("1 and 1", 1);
        grudge("1 and 2", 1);
        grudge("0 and 0", 0);
        grudge("1 or 0", 1);
        grudge("2 or 2", 1);
        grudge("0 or 7", 1);
        grudge("0 or 0", 0);
        grudge("1 or 0 and 0", 1);
        grudge("(1 or 0) and 0", 0);
        grudge("not 0 and 0", 0);
        grudge("goods or 1", 1);
        WhiteBoard y = Check.told("master 9;place 9;person 50 0;person 40 0;person 30 0;kin 2 0;kin 2 1;"
            + "writes day*1000+sales*100+listed*10+kin+1;");
        y.mornings(2);
        Check.due("0 and, as KIN, 2 are listed, 0 is sold", y.grudge(0, 2), 2000 + 100 + 20 + 1 + 1);
        y.write(1);
        Check.due("two KIN are listed", y.grudge(0, 2), 2000 + 100 + 30 + 2 + 1);
        Check.due("one KIN is listed", y.grudge(0, 0), 2000 + 100 + 30 + 1 + 1);
    }

    /** Of master 0 and person 0, who is a foe. */
    private static void grudge(String rule, int due) {
        WhiteBoard x = Check.told("master 10;place 1;person 50 0;foe 0 0;writes " + rule + ";");
        Check.due(rule, x.grudge(0, 0), due);
    }

    private static void prices() {
        StringBuilder text = new StringBuilder("master 999;master 999;master 999;place 9;");
        for (int p = 0; p < 9; p++) {
            text.append("person 99 0;");
        }
        WhiteBoard x = Check.told(text.toString());
        x.mornings(2);
        Check.due("three are dead", x.count(6), 7);
        Check.due("99 by 10, a tenth", x.master(0, 0), 900);
        Check.due("99 by 9, a tenth", x.master(1, 0), 999 - 89);
        Check.due("99 by 8, a tenth", x.master(2, 0), 999 - 79);
        x.mornings(3);
        Check.due("nine sales", x.count(8), 9);
        Check.due("by 1 at the least", x.person(0, 5), 9);
        Check.due("99, 69, 39 are paid", x.master(0, 0), 999 - 99 - 69 - 39);
        Check.due("89, 59, 29 are paid", x.master(1, 0), 999 - 89 - 59 - 29);
        Check.due("79, 49, 19 are paid", x.master(2, 0), 999 - 79 - 49 - 19);
    }

    private static void going() {
        WhiteBoard x = Check.told(THREE);
        Check.due("to the other place", x.go(0, 0), 1);
        Check.due("and back", x.go(0, 0), 0);
        Check.due("no such way from there", x.go(0, 1), -1);
        Check.due("who is away stays", x.go(2, 1), -1);
        Check.due("to the sea", x.go(1, 1), 2);
        Check.due("away", x.count(7), 6);
        Check.due("acts", x.count(11), 3);
        Check.due("refused acts", x.count(15), 2);
        Check.noSuch("go(3, 0)", () -> x.go(3, 0));
        Check.noSuch("go(-1, 0)", () -> x.go(-1, 0));
        Check.noSuch("go(0, 2)", () -> x.go(0, 2));
        Check.noSuch("go(2, 9), away", () -> x.go(2, 9));
        Check.due("no act was refused by that", x.count(15), 2);
        x.mornings(1);
        Check.due("open on day 1", x.go(0, 0), 1);
        x.undo();
        x.mornings(1);
        Check.due("shut from day 2 on", x.go(0, 0), -1);
        x.mornings(1);
        Check.due("dead", x.count(6), 1);
        Check.due("the dead do not go", x.go(0, 0), -1);
    }

    private static void writing() {
        WhiteBoard x = Check.told(THREE);
        Check.due("write", x.write(1), true);
        Check.due("written by the scribe", x.person(1, 4), -2);
        Check.due("written on day 0", x.person(1, 3), 0);
        Check.due("no master's name", x.master(0, 3), 0);
        Check.due("write again", x.write(1), false);
        Check.due("refused", x.count(15), 1);
        Check.noSuch("write(3)", () -> x.write(3));
        Check.noSuch("strike(-1)", () -> x.strike(-1));
        Check.due("strike", x.strike(1), -2);
        Check.due("struck off: the list", x.count(5), 0);
        Check.due("struck off: the day", x.person(1, 3), -1);
        Check.due("struck off: by whom", x.person(1, 4), -1);
        Check.due("strike again", x.strike(1), -1);
        Check.due("refused again", x.count(15), 2);
        x.mornings(2);
        Check.due("strike a master's name", x.strike(0), 0);
        x.open(false);
        Check.due("the scribe writes on a closed list", x.write(0), true);
        x.mornings(1);
        Check.due("a new writing counts anew", x.count(6), 0);
        Check.due("strike who is away", x.strike(2), 0);
        x.mornings(1);
        Check.due("found by the scribe's name", x.count(6), 1);
        Check.due("nobody is paid", x.master(0, 0), 10);
        Check.due("a sale all the same", x.count(8), 1);
        Check.due("the dead are not struck off", x.strike(0), -1);
        Check.due("the dead are not written", x.write(0), false);
    }

    private static void closing() {
        WhiteBoard x = Check.told(THREE);
        Check.due("open already", x.open(true), false);
        Check.due("close", x.open(false), true);
        Check.due("closed already", x.open(false), false);
        Check.due("refused", x.count(15), 2);
        Check.due("closed", x.count(9), 0);
        x.mornings(2);
        Check.due("nobody is written", x.count(5), 0);
        Check.due("open", x.open(true), true);
        x.mornings(1);
        Check.due("one is written", x.count(5), 4);
    }

    private static void undoing() {
        WhiteBoard x = Check.told(THREE);
        Check.due("nothing to undo", x.undo(), -1);
        Check.due("is no refused act", x.count(15), 0);
        x.mornings(3);
        x.go(1, 1);
        x.strike(1);
        x.write(1);
        x.open(false);
        x.see(0, 0, true);
        Check.due("five acts", x.count(11), 5);
        Check.due("open again", x.undo(), 4);
        Check.due("open", x.count(9), 1);
        Check.due("not written", x.undo(), 3);
        Check.due("the list", x.count(5), 5);
        Check.due("not struck", x.undo(), 2);
        Check.due("on day 2 as it was", x.person(1, 3), 2);
        Check.due("by master 0 as it was", x.person(1, 4), 0);
        Check.due("not gone", x.undo(), 1);
        Check.due("place", x.person(1, 1), 1);
        Check.due("all mornings of a call are one act", x.undo(), 0);
        counts("undone", x, 1, 3, 2, 3, 0, 0, 0, 4, 0, 1, 0, 0, 1);
        Check.due("the debt", x.master(0, 0), 10);
        Check.due("no more", x.undo(), -1);
        Check.due("refused acts", x.count(15), 0);
    }

    private static void latestActs() {
        WhiteBoard x = Check.told(THREE);
        x.mornings(1);
        for (int i = 0; i < 45; i++) {
            x.open(i % 2 != 0);
        }
        Check.due("40 are kept", x.count(11), 40);
        for (int left = 39; left >= 0; left--) {
            Check.due("undo to " + left, x.undo(), left);
            Check.due("is open, with " + left, x.count(9), left % 2 == 0 ? 0 : 1);
        }
        Check.due("no more", x.undo(), -1);
        Check.due("the morning stays", x.count(4), 1);
    }

    private static void imaging() {
        WhiteBoard x = Check.told(THREE);
        Check.due("no image", x.restore(), false);
        x.mornings(2);
        x.see(1, 3, true);
        x.image();
        x.mornings(1);
        x.go(1, 1);
        x.forget();
        x.open(false);
        x.mornings(0);
        Check.due("restore", x.restore(), true);
        counts("restored", x, 1, 3, 2, 3, 2, 5, 0, 4, 0, 1, 2, 1, 1, 0, 0, 1);
        Check.due("debt", x.master(0, 0), 10);
        Check.due("place", x.person(1, 1), 1);
        Check.due("written", x.person(0, 3), 1);
        Check.due("undo behind restore", x.undo(), 0);
        Check.due("day 0", x.count(4), 0);
        Check.due("restore again", x.restore(), true);
        Check.due("day 2", x.count(4), 2);
        Check.due("its acts", x.count(11), 1);
        x.mornings(3);
        x.image();
        x.mornings(3);
        x.restore();
        Check.due("the later image", x.count(4), 5);
        Check.due("both acts", x.count(11), 2);
        Check.due("the first one is undone last", x.undo(), 1);
        Check.due("day 2 by undo", x.count(4), 2);
        x.forget();
        for (int i = 0; i < 44; i++) {
            x.open(i % 2 != 0);
        }
        x.image();
        x.undo();
        x.restore();
        Check.due("40 acts in an image", x.count(11), 40);
        Check.due("open behind 44 acts", x.count(9), 1);
        x.undo();
        Check.due("closed behind 43 acts", x.count(9), 0);
    }

    private static void imageOfSeen() {
        WhiteBoard x = Check.told(THREE);
        x.see(2, 0, true);
        x.see(1, 3, true);
        x.image();
        x.forget();
        x.see(2, 0, false);
        x.see(0, 0, true);
        Check.due("not so", x.scribe(2), 0);
        x.restore();
        Check.due("seen", x.count(12), 2);
        Check.due("so", x.scribe(2), 1);
        x.forget();
        x.see(1, 1, true);
        x.image();
        x.forget();
        x.see(1, 2, true);
        Check.due("by day 2", x.scribe(2), 1);
        x.restore();
        Check.due("not by day 1", x.scribe(2), 0);
        x.forget();
        x.see(2, 1, true);
        x.restore();
        Check.due("not 1 by day 1", x.scribe(2), 0);
    }

    private static void lastDay() {
        WhiteBoard x = Check.told(THREE);
        Check.due("mornings(0)", x.mornings(0), -1);
        Check.due("mornings(21)", x.mornings(21), -1);
        Check.due("mornings(-1)", x.mornings(-1), -1);
        Check.due("mornings(most)", x.mornings(Integer.MAX_VALUE), -1);
        Check.due("refused", x.count(15), 4);
        Check.due("mornings(20)", x.mornings(20), 20);
        Check.due("mornings(20) again", x.mornings(20), 40);
        Check.due("mornings(19)", x.mornings(19), 59);
        Check.due("mornings(2) on day 59", x.mornings(2), -1);
        Check.due("the day stays", x.count(4), 59);
        Check.due("the last morning", x.mornings(1), 60);
        Check.due("no more mornings", x.mornings(1), -1);
        Check.due("all is written and found", x.count(6), 3);
    }

    private static void refusals() {
        WhiteBoard x = Check.told(THREE);
        x.mornings(0);
        x.see(0, 30, true);
        Check.due("STATUS 1", x.count(15), 1);
        Check.due("STATUS 2", x.count(16), 1);
        x.image();
        x.mornings(0);
        x.restore();
        Check.due("STATUS is in no image", x.count(15), 2);
        Check.tell(x, THREE);
        Check.due("STATUS 1 stays", x.count(15), 2);
        Check.due("STATUS 2 stays", x.count(16), 1);
    }
}
