/** Promises 2 to 4: the tape, the texts and their FAULTS. */
public final class TextTest {
    private static final String TWO = "place 1;place 2;";
    private static final String PAIR = "place 1;person 1 0;person 1 0;";

    public static void main(String[] args) {
        tape();
        boards();
        allAnew();
        tokens();
        lines();
        tooMany();
        untold();
        twice();
        expressions();
        nesting();
        longText();
        Check.end("TextTest");
    }

    private static void tape() {
        WhiteBoard x = new WhiteBoard();
        for (int i = 1; i <= 35; i++) {
            Check.due("feed " + i, x.feed(0x20202020, 0x20202020, 0x20202020, 0x20202020, 0x20202020), 20 * i);
        }
        Check.due("feed beyond 700", x.feed(0, 0, 0, 0, 0), -1);
        Check.due("bytes of a full tape", x.count(13), 700);
        Check.due("refused feed is no STATUS", x.count(14) + x.count(15) + x.count(16), 0);
        Check.illegal("board(701)", () -> x.board(701));
        Check.illegal("board(-1)", () -> x.board(-1));
        Check.due("bytes behind board() that threw", x.count(13), 700);
        Check.due("board of blanks", x.board(700), 0);
        Check.due("bytes behind board()", x.count(13), 0);
        Check.illegal("board(1) of an empty tape", () -> x.board(1));
        // The highest byte first: "sea;" in each of five numbers, the last one cut off.
        x.feed(0x7365613b, 0x7365613b, 0x7365613b, 0x7365613b, 0x7365613b);
        Check.due("board(16)", x.board(16), 0);
        Check.due("seas told", x.count(1), 4);
        Check.due("all the tape is gone", x.count(13), 0);
    }

    private static void boards() {
        WhiteBoard x = Check.told("master 9;place 3;sea;way 0 1 5;person 7 0;");
        x.mornings(2);
        x.see(0, 1, true);
        x.image();
        Check.due("a FAULT's number", Check.tell(x, "sea;sea;sea;sea;foe;"), 1);
        Check.due("a FAULT's place", x.fault(), 19);
        Check.due("tape behind a FAULT", x.count(13), 0);
        Check.due("places behind a FAULT", x.count(1), 2);
        Check.due("day behind a FAULT", x.count(4), 2);
        Check.due("acts behind a FAULT", x.count(11), 1);
        Check.due("seen behind a FAULT", x.count(12), 1);
        Check.due("STATUS 0", x.count(14), 1);
        Check.illegal("board(9)", () -> x.board(9));
        Check.due("fault behind board() that threw", x.fault(), 19);
        Check.due("STATUS 0 behind board() that threw", x.count(14), 1);
        Check.due("image behind a FAULT", x.restore(), true);
        Check.due("a new board", Check.tell(x, "place 1;person 4 0;"), 0);
        Check.due("fault without", x.fault(), -1);
        Check.due("STATUS 0 stays", x.count(14), 1);
        int[] counts = {0, 1, 0, 1, 0, 0, 0, 0, 0, 1, 0, 0, 0, 0, 1, 0, 0};
        for (int what = 0; what < counts.length; what++) {
            Check.due("all anew: count(" + what + ")", x.count(what), counts[what]);
        }
        Check.due("the image is gone", x.restore(), false);
        Check.due("the acts are gone", x.undo(), -1);
        Check.due("goods told anew", x.person(0, 0), 4);
        Check.due("the empty board", x.board(0), 0);
        Check.due("people of the empty board", x.count(3), 0);
    }

    /** Nothing of a board is left behind the next ones. */
    private static void allAnew() {
        String full = "master 5;master 6;master 7;place 9;place 9;place 9;way 0 1 9;way 1 2 9;way 0 2 9;"
            + "person 9 0;person 8 0;person 7 0;kin 0 1;kin 1 2;kin 2 0;friend 0 0;friend 1 1;foe 2 2;"
            + "foe 0 1;foe 1 0;friend 2 0;writes foe;";
        WhiteBoard x = Check.told(full);
        Check.due("full again", Check.tell(x, full), 0);
        x.mornings(5);
        x.open(false);
        Check.due("dead", x.count(6), 7);
        Check.due("full once more", Check.tell(x, full), 0);
        x.mornings(5);
        x.open(false);
        Check.due("a short one", Check.tell(x, "master 1;place 0;place 2;person 3 0;person 4 0;"), 0);
        int[] counts = {1, 2, 0, 2, 0, 0, 0, 0, 0, 1, 0, 0, 0, 0, 0, 0, 0};
        for (int what = 0; what < counts.length; what++) {
            Check.due("a short one: count(" + what + ")", x.count(what), counts[what]);
        }
        Check.due("no friends", x.master(0, 1), 0);
        Check.due("no foes", x.master(0, 2), 0);
        Check.due("no kin", x.person(0, 2), 0);
        Check.due("no rule", x.grudge(0, 1), 4);
        Check.due("no ways", x.far(0, 1), -1);
        Check.due("limits begin anew", Check.tell(x, full), 0);
        Check.due("limits begin anew, with all", Check.tell(x, full.substring(0, full.length() - 11)
            + "friend 1 2;foe 2 1;friend 0 2;"), 0);
        Check.due("a rule anew", Check.tell(x, "master 1;place 0;person 3 0;writes friend+foe+kin;"), 0);
        Check.due("the new rule", x.grudge(0, 0), 0);
    }

    private static void tokens() {
        Check.fault("", 0, -1);
        Check.fault(" \n \n", 0, -1);
        Check.fault("master1;place2;sea;way0 1 3;person4 0;", 0, -1);
        Check.fault("master\n 0007 \n;", 0, -1);
        Check.fault("master 00007;", 2, 7);
        Check.fault("master\t7;", 1, 6);
        Check.fault("master`7;", 1, 6);
        Check.fault("master{7;", 1, 6);
        Check.fault("master 1:2;", 1, 8);
        Check.fault("master 1/2;", 1, 8);
        Check.fault("Master 7;", 1, 0);
        Check.fault("maste 7;", 1, 0);
        Check.fault("masters 7;", 1, 0);
        Check.fault("master 7:", 1, 8);
        Check.fault("  master 7", 1, 10);
        Check.fault("master 7  ", 1, 10);
        Check.fault("master 7\u00e9;", 1, 8);
        Check.fault("\u0000", 1, 0);
        Check.fault("master 7;;", 1, 9);
        Check.fault("12345", 1, 0);
        Check.fault("7", 1, 0);
        Check.fault("or;", 1, 0);
        Check.fault("goods 1;", 1, 0);
    }

    private static void lines() {
        Check.fault("master 999;master 0;", 0, -1);
        Check.fault("master 1000;", 2, 7);
        Check.fault("master -1;", 1, 7);
        Check.fault("master x;", 1, 7);
        Check.fault("master", 1, 6);
        Check.fault("place 9;place 0;", 0, -1);
        Check.fault("place 10;", 2, 6);
        Check.fault("place;", 1, 5);
        Check.fault("sea;sea;", 0, -1);
        Check.fault("sea 1;", 1, 4);
        Check.fault(TWO + "way 0 1 60;", 0, -1);
        Check.fault(TWO + "way 0 1 61;", 2, 24);
        Check.fault(TWO + "way 0 1 60000;", 2, 24);
        Check.fault(TWO + "way 0 1;", 1, 23);
        Check.fault("place 1;person 99 0;", 0, -1);
        Check.fault("place 1;person 100 0;", 2, 15);
        Check.fault("place 1;person 1;", 1, 16);
        Check.fault(PAIR + "kin 0 1;", 0, -1);
        Check.fault(PAIR + "kin 0;", 1, 35);
        Check.fault("master 1;" + PAIR + "friend 0;", 1, 47);
        Check.fault("master 1;" + PAIR + "foe 0 1 1;", 1, 47);
    }

    private static void tooMany() {
        Check.fault("master 1;".repeat(3), 0, -1);
        Check.fault("master 1;".repeat(4), 2, 27);
        Check.fault("master 1;".repeat(3) + "master", 2, 27);
        Check.fault("place 1;".repeat(7) + "sea;", 0, -1);
        Check.fault("place 1;".repeat(7) + "sea;sea;", 2, 60);
        Check.fault("place 1;".repeat(7) + "sea;place 77777", 2, 60);
        String people = "place 1;" + "person 1 0;".repeat(9);
        Check.fault(people, 0, -1);
        Check.fault(people + "person 1 0;", 2, people.length());
        StringBuilder kin = new StringBuilder(people);
        for (int p = 1; p < 9; p++) {
            kin.append("kin 0 ").append(p).append(';');
        }
        kin.append("kin 1 2;");
        Check.fault(kin.toString(), 0, -1);
        Check.fault(kin + "kin 1 3;", 2, kin.length());
        StringBuilder ways = new StringBuilder("place 1;".repeat(8));
        for (int p = 1; p < 8; p++) {
            ways.append("way 0 ").append(p).append(" 1;");
        }
        for (int p = 2; p < 7; p++) {
            ways.append("way 1 ").append(p).append(" 1;");
        }
        Check.fault(ways.toString(), 0, -1);
        Check.fault(ways + "way 1 7 1;", 2, ways.length());
        StringBuilder ties = new StringBuilder("master 1;master 1;" + people);
        for (int p = 0; p < 9; p++) {
            ties.append(p % 2 == 0 ? "friend 0 " : "foe 0 ").append(p).append(';');
        }
        ties.append("foe 1 0;foe 1 1;friend 1 2;");
        Check.fault(ties.toString(), 0, -1);
        Check.fault(ties + "foe 1 3;", 2, ties.length());
        Check.fault(ties + "friend 1 3;", 2, ties.length());
    }

    private static void untold() {
        Check.fault("way 0 1 1;place 1;place 2;", 3, 4);
        Check.fault(TWO + "way 2 0 1;", 3, 20);
        Check.fault(TWO + "way 0 2 1;", 3, 22);
        Check.fault(TWO + "way 0 9999 1;", 3, 22);
        Check.fault(TWO + "way 0 99999 1;", 2, 22);
        Check.fault("person 1 0;", 3, 9);
        Check.fault("place 1;person 1 1;", 3, 17);
        Check.fault("place 1;person 1 0;kin 0 1;", 3, 25);
        Check.fault("kin 0 1;", 3, 4);
        Check.fault("place 1;person 1 0;friend 0 0;master 1;", 3, 26);
        Check.fault("master 1;friend 0 0;", 3, 18);
        Check.fault("master 1;foe 1 0;", 3, 13);
    }

    private static void twice() {
        Check.fault(TWO + "way 1 1 1;", 4, 22);
        Check.fault(TWO + "way 0 1 1;way 0 1 2;", 4, 32);
        Check.fault(TWO + "way 0 1 1;way 1 0 2;", 4, 32);
        Check.fault(TWO + "way 0 1 0;way 0 1 2;", 4, 32);
        Check.fault(TWO + "place 3;way 0 1 1;way 1 2 1;way 0 2 1;", 0, -1);
        Check.fault(PAIR + "kin 1 1;", 4, 36);
        Check.fault(PAIR + "kin 0 1;kin 1 0;", 4, 44);
        Check.fault("master 1;" + PAIR + "friend 0 0;friend 0 0;", 4, 59);
        Check.fault("master 1;" + PAIR + "foe 0 1;friend 0 1;", 4, 56);
        Check.fault("master 1;master 1;" + PAIR + "foe 0 1;friend 1 1;foe 0 0;", 0, -1);
        Check.fault("writes 1;writes 1;", 5, 9);
        Check.fault("writes 1;sea;writes ) ;", 5, 13);
    }

    private static void expressions() {
        Check.fault("writes goods;", 0, -1);
        Check.fault("writes;", 1, 6);
        Check.fault("writes 1", 1, 8);
        Check.fault("writes 9999;", 0, -1);
        Check.fault("writes 10000;", 2, 7);
        Check.fault("writes 1 10000;", 1, 9);
        Check.fault("writes x;", 3, 7);
        Check.fault("writes master;", 3, 7);
        for (String word : "master place sea way person writes or and".split(" ")) {
            Check.fault("writes " + word + ";", 3, 7);
        }
        Check.fault("writes 1 or and;", 3, 12);
        Check.fault("writes 1 + not 1;", 3, 11);
        Check.fault("writes 1 < not 1;", 3, 11);
        Check.fault("writes 1 and not 1;", 0, -1);
        Check.fault("writes 1 x;", 1, 9);
        Check.fault("writes 1 not 1;", 1, 9);
        Check.fault("writes 1 1;", 1, 9);
        Check.fault("writes -1;", 1, 7);
        Check.fault("writes 1+;", 1, 9);
        Check.fault("writes 1+*2;", 1, 9);
        Check.fault("writes 1<2<3;", 1, 10);
        Check.fault("writes 1=2<3;", 1, 10);
        Check.fault("writes (1=2)<3;", 0, -1);
        Check.fault("writes 1=2 or 2<3 and 3=4;", 0, -1);
        Check.fault("writes not 1=2;", 0, -1);
        Check.fault("writes 1);", 1, 8);
        Check.fault("writes (1;", 1, 9);
        Check.fault("writes ();", 1, 8);
        Check.fault("writes (1", 1, 9);
        Check.fault("writes 1 &;", 1, 9);
        Check.fault("writes goods+debt*foe/friend-kin<listed+day-sales or not(1 and 0)=0;", 0, -1);
    }

    private static void nesting() {
        Check.fault("writes (((((1)))));", 0, -1);
        Check.fault("writes ((((((1))))));", 2, 13);
        Check.fault("writes (((((((1)))))));", 2, 13);
        Check.fault("writes ((((((x))))));", 2, 13);
        Check.fault("writes ((((((or))))));", 2, 13);
        Check.fault("writes ((((((not 1))))));", 2, 13);
        Check.fault("writes ((((((99999))))));", 2, 13);
        Check.fault("writes (((((()))))) ;", 1, 13);
        Check.fault("writes ((((((+1))))));", 1, 13);
        Check.fault("writes ((((((", 1, 13);
        Check.fault("writes 1+(2*(3-(4/(5<(goods)))));", 0, -1);
        Check.fault("writes (1)+(1)+(1)+(1)+(1)+(1)+(1)+(1);", 0, -1);
        Check.fault("writes " + "not ".repeat(6) + "1;", 0, -1);
        Check.fault("writes " + "not ".repeat(7) + "1;", 2, 31);
        Check.fault("writes " + "not ".repeat(6) + "x;", 3, 31);
        Check.fault("writes " + "not ".repeat(6) + "(" + "not ".repeat(6) + "1);", 0, -1);
        Check.fault("writes " + "not ".repeat(6) + "1 or " + "not ".repeat(6) + "1;", 0, -1);
        Check.fault("writes " + "not ".repeat(6) + ";", 1, 31);
    }

    private static void longText() {
        StringBuilder text = new StringBuilder("writes 1");
        while (text.length() < 698) {
            text.append("+1");
        }
        text.append(" ;");
        Check.due("length", text.length(), 700);
        Check.fault(text.toString(), 0, -1);
        text.setCharAt(699, '+');
        Check.fault(text.toString(), 1, 699 + 1);
        StringBuilder parts = new StringBuilder("writes ");
        for (int i = 0; i < 5; i++) {
            parts.append("not not not not not not 0 or 0 and 0<0+0*(");
        }
        parts.append("1=1+2*3)))));");
        Check.fault(parts.toString(), 0, -1);
    }
}
