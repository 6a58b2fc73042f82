/** Boundary cases of the tape, of TEXTS and their FAULTS, of rules and their VALUES: promises 1 to 4, and the terms. */
final class EdgesOfText {
    private static final int BLANKS = 0x20202020;
    private static final String TWO = "place 1;place 2;";
    private static final String PAIR = "place 1;person 1 0;person 1 0;";
    private static final String NOTS = "not not not not not not ";
    /** A BOARD with a LINE of each kind; the tokens stand one blank apart. */
    private static final String EACH = "master 5 ; place 3 ; sea ; way 0 1 9 ; person 7 0 ; person 8 1 ; kin 0 1 ; "
        + "friend 0 0 ; foe 0 1 ; writes 1 ;";

    private EdgesOfText() {
    }

    static void all() {
        newObject();
        feeding();
        tellingBoards();
        placesOfFaults();
        limits();
        tokens();
        signs();
        lines();
        expressions();
        numbersThatWrap();
        truths();
        values();
        firstFaults();
        misplaced();
        misplacedInRules();
        tooMuch();
        tooMany();
        within();
        nots();
        untold();
        twice();
        secondRule();
    }

    private static void newObject() {
        Edge.says(1, "Nobody.");
        WhiteBoard x = new WhiteBoard();
        for (int what = 0; what <= 16; what++) {
            Edge.due("count " + what, x.count(what), what == 9 ? 1 : 0);
        }
        Edge.due("fault", x.fault(), -1);
        Edge.noOther("master", 0, i -> x.master(i, 0));
        Edge.noOther("place", 0, i -> x.place(i, 0));
        Edge.noOther("person", 0, i -> x.person(i, 0));
        Edge.noSuch("a person's way", () -> x.go(0, 0));
        Edge.due("no image", x.restore(), false);
        Edge.says(Edge.TERMS, "The constants: `NONE = -1`: There is none; nobody.");
        Edge.due("NONE", WhiteBoard.NONE, -1);
    }

    private static void feeding() {
        Edge.says(2, "Twenty bytes come behind the tape, of each number the highest first: how many it has;");
        for (int at = 0; at < 20; at++) {
            int[] five = {BLANKS, BLANKS, BLANKS, BLANKS, BLANKS};
            five[at / 4] += 1 << 24 - at % 4 * 8;
            WhiteBoard x = new WhiteBoard();
            Edge.due("the first twenty", x.feed(BLANKS, BLANKS, BLANKS, BLANKS, BLANKS), 20);
            Edge.due("twenty more", x.feed(five[0], five[1], five[2], five[3], five[4]), 40);
            Edge.due("bytes", x.count(13), 40);
            Edge.due("byte " + at + " is none", x.board(40), 1);
            Edge.due("byte " + at + " of them", x.fault(), 20 + at);
        }
        WhiteBoard below = new WhiteBoard();
        Edge.due("a number below 0", below.feed(-1, Integer.MIN_VALUE, 0, 0, 0), 20);
        Edge.due("255 is none", below.board(1), 1);
        below.feed(BLANKS, Integer.MIN_VALUE, 0, 0, 0);
        Edge.due("128 is none", below.board(5), 1);
        Edge.due("its place", below.fault(), 4);
        Edge.says(2, "NONE, and none come, if it would have more than 700.");
        WhiteBoard x = new WhiteBoard();
        for (int bytes = 20; bytes <= 700; bytes += 20) {
            Edge.due("up to 700", x.feed(BLANKS, BLANKS, BLANKS, BLANKS, BLANKS), bytes);
        }
        Edge.refused("the 36th", x, WhiteBoard.NONE, () -> Edge.due("the 36th", x.feed(-1, -1, -1, -1, -1), -1));
        Edge.due("bytes", x.count(13), 700);
        Edge.due("none came", x.board(700), 0);
        Edge.due("an empty tape takes more", x.feed(BLANKS, BLANKS, BLANKS, BLANKS, BLANKS), 20);
    }

    private static void feedSeas(WhiteBoard x) {
        Edge.due("five seas", Check.feed(x, "sea;sea;sea;sea;sea;"), 20);
    }

    private static void tellingBoards() {
        WhiteBoard x = new WhiteBoard();
        Edge.says(3, "The tape's first n bytes (it is empty then, with a FAULT, too)");
        feedSeas(x);
        Edge.due("8 of 20 bytes", x.board(8), 0);
        Edge.due("two seas", x.count(1), 2);
        Edge.due("all the tape is gone", x.count(13), 0);
        feedSeas(x);
        Edge.due("all of it", x.board(20), 0);
        Edge.due("five places", x.count(1), 5);
        feedSeas(x);
        Edge.due("7 of 20 bytes", x.board(7), 1);
        Edge.due("the text ends behind them", x.fault(), 7);
        Edge.due("empty with a FAULT", x.count(13), 0);
        feedSeas(x);
        Edge.due("none of 20 bytes", x.board(0), 0);
        Edge.due("no places", x.count(1), 0);
        Edge.due("empty without any", x.count(13), 0);
        allAnew();
        gone();
        wrongLengths();
    }

    private static void allAnew() {
        Edge.says(3, "are a BOARD, all anew: 0, or the FAULT (all else stays, but STATUS).");
        String most = "place 1;" + "person 1 0;".repeat(9) + "kin 0 1;kin 0 2;kin 0 3;kin 0 4;kin 0 5;kin 0 6;"
            + "kin 0 7;kin 0 8;kin 1 2;master 1;master 2;master 3;" + "foe 0 0;friend 0 1;foe 0 2;friend 0 3;foe 0 4;foe 0 5;"
            + "foe 0 6;foe 0 7;foe 0 8;foe 1 0;foe 1 1;foe 1 2;writes 1;";
        String ways = "sea;".repeat(8) + "way 0 1 1;way 0 2 1;way 0 3 1;way 0 4 1;way 0 5 1;way 0 6 1;way 0 7 1;"
            + "way 1 2 1;way 1 3 1;way 1 4 1;way 1 5 1;way 1 6 1;";
        WhiteBoard x = new WhiteBoard();
        for (int i = 0; i < 4; i++) {
            Edge.due("as many as can be, again", Check.tell(x, most), 0);
            Edge.due("as many ways as can be, again", Check.tell(x, ways), 0);
        }
        Edge.due("nobody any more", x.count(3), 0);
        Check.tell(x, most);
        x.write(2);
        x.mornings(20);
        x.open(false);
        Check.tell(x, "master 7;place 0;person 4 0;person 5 0;");
        int[] due = {1, 1, 0, 2, 0, 0, 0, 0, 0, 1, 0, 0, 0, 0, 0, 0, 0};
        Edge.row("anew: count", due, x::count);
        Edge.row("anew: person 0", new int[] {4, 0, 0, -1, -1, 4}, i -> x.person(0, i));
        Edge.row("anew: master 0", new int[] {7, 0, 0, 0}, i -> x.master(0, i));
        Edge.due("anew: no rule", x.grudge(0, 1), 5);
        x.see(0, 0, true);
        x.image();
        x.mornings(3);
        Check.feed(x, "sea;place 2;person 1 1;sea !");
        String before = Edge.state(x).replaceFirst(" 40 ", " 0 ");
        Edge.due("a FAULT", x.board(28), 1);
        Edge.due("all else stays: " + before, Edge.state(x).equals(before), true);
        Edge.due("STATUS 0", x.count(14), 1);
        Edge.due("seen stays", x.count(12), 1);
        Edge.due("acts stay", x.undo(), 0);
        Edge.due("the image stays", x.restore(), true);
    }

    private static void gone() {
        Edge.says(3, "ACTS, what is SEEN, the image are gone (STATUS stays).");
        WhiteBoard x = Check.told(PAIR);
        Check.tell(x, "!");
        x.mornings(0);
        x.see(0, 30, true);
        x.mornings(1);
        x.see(0, 0, true);
        x.image();
        Edge.due("a BOARD", Check.tell(x, PAIR), 0);
        Edge.due("acts", x.count(11), 0);
        Edge.due("nothing to undo", x.undo(), -1);
        Edge.due("seen", x.count(12), 0);
        Edge.due("nothing is seen to be so", x.scribe(2), 1);
        Edge.due("no image", x.restore(), false);
        Edge.row("STATUS", new int[] {1, 1, 1}, i -> x.count(14 + i));
        x.image();
        Edge.due("the empty BOARD", x.board(0), 0);
        Edge.due("no image by that either", x.restore(), false);
    }

    private static void wrongLengths() {
        Edge.says(3, "IllegalArgumentException: the tape has not so many, n below 0 (nothing changes).");
        WhiteBoard x = Check.told(PAIR);
        Check.tell(x, " !");
        x.mornings(1);
        feedSeas(x);
        for (int n : new int[] {21, -1, Integer.MIN_VALUE, Integer.MAX_VALUE, 701}) {
            Edge.refused("board " + n, x, WhiteBoard.NONE, () -> Edge.illegal("board " + n, () -> x.board(n)));
        }
        Edge.due("the FAULT's place stays", x.fault(), 1);
        Edge.due("just so many", x.board(20), 0);
        Edge.due("it is a BOARD", x.count(1), 5);
        Edge.illegal("one of an empty tape", () -> x.board(1));
        Edge.due("none of an empty tape", x.board(0), 0);
    }

    private static void placesOfFaults() {
        WhiteBoard x = new WhiteBoard();
        Edge.says(4, "The place of the latest board()'s FAULT;");
        Check.tell(x, "sea;!");
        Edge.due("the first one's", x.fault(), 4);
        Check.tell(x, "!");
        Edge.due("the latest one's", x.fault(), 0);
        Check.feed(x, "sea");
        x.mornings(1);
        x.undo();
        Edge.due("whatever comes behind it", x.fault(), 0);
        Edge.says(4, "NONE without.");
        Edge.due("a BOARD", x.board(0), 0);
        Edge.due("without", x.fault(), -1);
    }

    private static void limits() {
        Edge.says(Edge.TERMS, "MASTERS 0, 1 .. (at most 3): a DEBT (0 to 999).");
        WhiteBoard masters = Check.told("master 0;master 999;master 7;");
        Edge.due("three", masters.count(0), 3);
        Edge.row("debt of", new int[] {0, 999, 7}, m -> masters.master(m, 0));
        Edge.fault("master 1000;", 2, 7);
        Edge.fault("master 1;master 1;master 1;master 1;", 2, 27);
        Edge.says(Edge.TERMS, "PLACES 0, 1 .. (at most 8): a DANGER (0 to 9), or the SEA.");
        WhiteBoard places = Check.told("place 0;place 9;sea;place 1;place 2;place 3;place 4;sea;");
        Edge.due("eight", places.count(1), 8);
        Edge.row("danger of", new int[] {0, 9, -1, 1, 2, 3, 4, -1}, p -> places.place(p, 0));
        Edge.fault("place 10;", 2, 6);
        Edge.says(Edge.TERMS, "WAYS 0, 1 .. (at most 12): two PLACES, a GATE (0 to 60: it is shut from that DAY on).");
        WhiteBoard gates = Check.told(TWO + "place 3;place 4;way 0 1 0;way 0 2 1;way 0 3 60;person 1 0;");
        Edge.due("0 is shut on day 0", gates.go(0, 0), -1);
        Edge.due("1 is open on day 0", gates.go(0, 1), 2);
        gates.undo();
        Edge.toDay(gates, 1);
        Edge.due("1 is shut on day 1", gates.go(0, 1), -1);
        Edge.toDay(gates, 59);
        Edge.due("60 is open on day 59", gates.go(0, 2), 3);
        Edge.toDay(gates, 60);
        Edge.due("60 is shut on day 60", gates.go(0, 2), -1);
        Edge.fault(TWO + "way 0 1 61;", 2, 24);
        Edge.says(Edge.TERMS, "PEOPLE 0, 1 .. (at most 9): GOODS (0 to 99), a PLACE.");
        WhiteBoard people = Check.told(TWO + "person 0 0;person 99 1;" + "person 1 0;".repeat(7));
        Edge.due("nine", people.count(3), 9);
        Edge.row("goods of", new int[] {0, 99, 1}, p -> people.person(p, 0));
        Edge.row("place of", new int[] {0, 1, 0}, p -> people.person(p, 1));
        Edge.fault("place 1;person 100 0;", 2, 15);
        Edge.says(Edge.TERMS, "KIN (at most 9): two of PEOPLE.");
        WhiteBoard kin = Check.told(PAIR + "person 1 0;kin 0 1;");
        Edge.row("kin of", new int[] {2, 1, 0}, p -> kin.person(p, 2));
        Edge.says(Edge.TERMS, "FRIENDS, FOES (at most 12 together): a MASTER and one of PEOPLE.");
        WhiteBoard ties = Check.told("master 1;master 1;" + PAIR + "friend 0 1;foe 1 1;foe 1 0;");
        Edge.row("friends of", new int[] {2, 0}, m -> ties.master(m, 1));
        Edge.row("foes of", new int[] {0, 3}, m -> ties.master(m, 2));
        Edge.says(Edge.TERMS, "WRITES: a rule.");
        Edge.due("a rule", Check.told("master 1;" + PAIR + "writes 7;").grudge(0, 0), 7);
    }

    private static void tokens() {
        Edge.says(Edge.TERMS, "A TEXT of at most 700 bytes tells it.");
        StringBuilder text = new StringBuilder("writes 1");
        while (text.length() < 698) {
            text.append("+1");
        }
        Edge.stands(text + " ;");
        Edge.fault(text + "  ", 1, 700);
        Edge.fault(" ".repeat(699) + "z", 1, 699);
        Edge.stands(" ".repeat(700));
        Edge.says(Edge.TERMS, "TOKENS: words (a .. z, the longest row)");
        Edge.fault("writes az;", 3, 7);
        Edge.fault("writes zz;", 3, 7);
        Edge.fault("writes 1 z;", 1, 9);
        Edge.fault("writes goodsz;", 3, 7);
        Edge.fault("writes goodsa;", 3, 7);
        Edge.fault("writes goods`;", 1, 12);
        Edge.fault("writes goods{;", 1, 12);
        Edge.fault("writes Goods;", 1, 7);
        Edge.fault("writes goodS;", 3, 7);
        Edge.fault("writes goods S;", 1, 13);
        Edge.fault("seaz;", 1, 0);
        Edge.fault("seasea;", 1, 0);
        Edge.fault("writes notgoods;", 3, 7);
        Edge.fault("writes not7;", 0, -1);
        Edge.stands("writes 7or 7and not 7;");
        Edge.says(Edge.TERMS, "NUMBERS (1 to 4 digits)");
        Edge.stands("writes 0+9+0000+9999;");
        Edge.stands("master 0999;place 0009;");
        Edge.fault("master 00999;", 2, 7);
        Edge.fault("writes 00000;", 2, 7);
        Edge.fault("writes 99999999999999999999;", 2, 7);
        Edge.stands("master7;place1;place2;way0 1 9;person4 0;");
        Edge.says(Edge.TERMS, "blanks (32, 10) between them count for nothing.");
        Edge.stands("  master\n\n7 ;\n");
        Edge.fault("mas ter 7;", 1, 0);
        Edge.fault("master 1 2;", 1, 9);
        Edge.due("two digits are two numbers", Check.told("place 1;place 1;way 0\n1 9;").count(2), 1);
        for (int other : new int[] {0, 9, 11, 12, 13, 31, 33, 127, 128, 160, 255}) {
            Edge.fault("sea" + (char) other + ";", 1, 3);
        }
    }

    private static void signs() {
        Edge.says(Edge.TERMS, "signs ; ( ) + - * / < = ;");
        Edge.stands("writes (1)+1-1*1/1<1;");
        Edge.stands("writes (1)+1-1*1/1=1;");
        String signs = ";()+-*/<=";
        for (char c = 0; c < 256; c++) {
            boolean isMore = c == ' ' || c == '\n' || c >= '0' && c <= '9' || c >= 'a' && c <= 'z';
            if (!isMore && signs.indexOf(c) < 0) {
                Edge.fault("writes 1" + c + "1;", 1, 8);
            }
        }
    }

    private static void lines() {
        Edge.says(Edge.TERMS, "In quotes is what stands there, [ ] perhaps, * any number of times, | one of some.");
        Edge.stands("writes 1=1;");
        Edge.stands("writes 1;");
        Edge.fault("writes 1=1=1;", 1, 10);
        Edge.stands("writes 1+1+1+1+1;");
        Edge.says(Edge.TERMS, "BOARD: LINE*.");
        Edge.stands("");
        Edge.stands("\n");
        Edge.stands("sea;");
        Edge.stands("sea;sea;sea;");
        Edge.fault("sea;;", 1, 4);
        Edge.says(Edge.TERMS, "LINE: ('master' DEBT | 'place' DANGER | 'sea' | 'way' PLACE PLACE GATE | 'person' GOODS PLACE "
            + "| 'kin' PERSON PERSON | ('friend' | 'foe') MASTER PERSON | 'writes' EXPR) ';', all in capitals but EXPR "
            + "being NUMBERS.");
        Edge.stands(EACH);
        WhiteBoard x = Check.told(EACH);
        Edge.row("told: count", new int[] {1, 2, 1, 2}, x::count);
        for (String word : "or and not goods debt listed day sales a x mastery".split(" ")) {
            Edge.fault(word + " 1;", 1, 0);
        }
        for (String line : EACH.split(" ; ")) {
            String begins = line.split(" ")[0];
            if (!begins.equals("sea") && !begins.equals("writes")) {
                Edge.fault(begins + " goods;", 1, begins.length() + 1);
            }
        }
    }

    private static void gives(String rule, int due) {
        WhiteBoard x = Check.told("master 10;place 1;person 50 0;foe 0 0;writes " + rule + ";");
        Edge.due(rule, x.grudge(0, 0), due);
    }

    private static void expressions() {
        Edge.says(Edge.TERMS, "EXPR: AND ('or' AND)*. AND: NOT ('and' NOT)*.");
        gives("1 or 0 and 0", 1);
        gives("0 and 0 or 1", 1);
        gives("0 or 0 or 3", 1);
        gives("1 and 1 and 0", 0);
        gives("7", 7);
        Edge.says(Edge.TERMS, "NOT: 'not' NOT | SUM [('<' | '=') SUM].");
        gives("not 1=0", 1);
        gives("not 0 and 0", 0);
        gives("not not 7", 1);
        gives("1+1=2", 1);
        gives("2=1+1", 1);
        gives("1<1+1", 1);
        Edge.fault("writes 1<2=1;", 1, 10);
        Edge.fault("writes 1+not 1;", 3, 9);
        Edge.fault("writes 1=not 1;", 3, 9);
        Edge.says(Edge.TERMS, "SUM: PRODUCT (('+' | '-') PRODUCT)*. PRODUCT: PART (('*' | '/') PART)*.");
        gives("2+3*4", 14);
        gives("2*3+4", 10);
        gives("9-6/3", 7);
        gives("9/3-1", 2);
        Edge.says(Edge.TERMS, "PART: NUMBER | VALUE | '(' EXPR ')'.");
        gives("(2+3)*4", 20);
        gives("0-(1 or 0)", -1);
        gives("((not 1)=0)+(2<3)", 2);
        gives("goods*(debt)", 500);
        Edge.fault("writes -1;", 1, 7);
        Edge.fault("writes ();", 1, 8);
        Edge.says(Edge.TERMS, "From the left;");
        gives("7-2-1", 4);
        gives("100/7/2", 7);
        gives("7/2*2", 6);
        gives("2*7/2", 7);
        gives("9-3+2", 8);
    }

    private static void numbersThatWrap() {
        String most = "(2147*1000*1000+483*1000+647)";
        String least = "(0-2147*1000*1000-483*1000-648)";
        Edge.says(Edge.TERMS, "ints that wrap,");
        gives(most, Integer.MAX_VALUE);
        gives(least, Integer.MIN_VALUE);
        gives(most + "+1", Integer.MIN_VALUE);
        gives(least + "-1", Integer.MAX_VALUE);
        gives(most + "*2", -2);
        gives(least + "*(0-1)", Integer.MIN_VALUE);
        gives(least + "/(0-1)", Integer.MIN_VALUE);
        gives("9999*9999*9999", 9999 * 9999 * 9999);
        gives(least + "<" + most, 1);
        Edge.says(Edge.TERMS, "/ cut down to 0, by 0 gives 0;");
        gives("7/2", 3);
        gives("(0-7)/2", -3);
        gives("7/(0-2)", -3);
        gives("(0-7)/(0-2)", 3);
        gives("(0-1)/2", 0);
        gives("7/0", 0);
        gives("0/0", 0);
        gives(least + "/0", 0);
        gives("7/0+5", 5);
    }

    private static void truths() {
        Edge.says(Edge.TERMS, "tests, not, and, or are 1 or 0 (what isn't 0 holds).");
        gives("1<2", 1);
        gives("2<2", 0);
        gives("3<2", 0);
        gives("(0-1)<0", 1);
        gives("2=2", 1);
        gives("1=2", 0);
        gives("3=2", 0);
        gives("not 0", 1);
        gives("not 1", 0);
        gives("not 2", 0);
        gives("not (0-1)", 0);
        gives("2 and 4", 1);
        gives("(0-1) and 2", 1);
        gives("2 and 0", 0);
        gives("0 and 2", 0);
        gives("0 and 0", 0);
        gives("2 or 4", 1);
        gives("0 or (0-1)", 1);
        gives("2 or 0", 1);
        gives("0 or 0", 0);
        gives("2+(2=2)+(not 0)", 4);
    }

    private static void values() {
        Edge.says(Edge.TERMS, "VALUES of a MASTER and one of PEOPLE: 'goods', 'debt', 'foe', 'friend' (1, if it is, else 0),");
        String ties = "master 10;master 0;place 9;person 50 0;person 60 0;person 0 0;friend 0 1;foe 0 2;foe 1 1;writes ";
        WhiteBoard goods = Check.told(ties + "goods;");
        Edge.row("goods of", new int[] {50, 60, 0}, p -> goods.grudge(0, p));
        WhiteBoard debt = Check.told(ties + "debt-goods;");
        Edge.row("debt of 0 less goods", new int[] {-40, -50, 10}, p -> debt.grudge(0, p));
        Edge.row("debt of 1 less goods", new int[] {-50, -60, 0}, p -> debt.grudge(1, p));
        WhiteBoard foe = Check.told(ties + "foe;");
        Edge.row("foe of 0", new int[] {0, 0, 1}, p -> foe.grudge(0, p));
        Edge.row("foe of 1", new int[] {0, 1, 0}, p -> foe.grudge(1, p));
        WhiteBoard friend = Check.told(ties + "friend;");
        Edge.row("friend of 0", new int[] {0, 1, 0}, p -> friend.grudge(0, p));
        Edge.row("friend of 1", new int[] {0, 0, 0}, p -> friend.grudge(1, p));
        WhiteBoard paid = Check.told("master 10;place 9;person 4 0;writes debt;");
        paid.mornings(2);
        Edge.due("the debt is what it is now", paid.grudge(0, 0), 6);
        Edge.says(Edge.TERMS, "'kin' (how many KIN of that one are on THE LIST),");
        WhiteBoard kin = Check.told("master 1;place 9;sea;person 9 0;person 9 1;person 9 0;person 9 0;"
            + "kin 0 1;kin 2 0;kin 2 3;writes kin;");
        Edge.due("nobody is on it", kin.grudge(0, 0), 0);
        kin.write(3);
        Edge.due("KIN of KIN do not count", kin.grudge(0, 0), 0);
        kin.write(1);
        Edge.due("one, who is away", kin.grudge(0, 0), 1);
        kin.write(0);
        Edge.due("oneself does not count", kin.grudge(0, 0), 1);
        kin.write(2);
        Edge.due("two", kin.grudge(0, 0), 2);
        kin.mornings(2);
        Edge.due("the dead count", kin.grudge(0, 0), 2);
        Edge.says(Edge.TERMS, "'listed' (how many are on it), 'day', 'sales' (how many there were).");
        WhiteBoard x = Check.told("master 1;place 9;sea;person 9 0;person 9 1;person 9 0;writes day*100+sales*10+listed;");
        Edge.due("none of them", x.grudge(0, 0), 0);
        x.write(0);
        x.write(1);
        Edge.due("two, one is away", x.grudge(0, 0), 2);
        x.open(false);
        x.mornings(2);
        Edge.due("two days, a sale, two, one is dead", x.grudge(0, 2), 212);
        Edge.toDay(x, 60);
        Edge.due("on the last day", x.grudge(0, 2), 6012);
    }

    private static void firstFaults() {
        Edge.says(Edge.TERMS, "FAULTS, the first along the text,");
        Edge.fault("master 1000;place 10;", 2, 7);
        Edge.fault("place 10;master 1000;", 2, 6);
        Edge.fault("way 0 0 61;", 3, 4);
        Edge.fault("sea !;writes 12345;", 1, 4);
        Edge.fault("writes 12345 !;", 2, 7);
        Edge.says(Edge.TERMS, "at a TOKEN's first byte,");
        Edge.fault("\n\n  masters 1;", 1, 4);
        Edge.fault("master     12345;", 2, 11);
        Edge.fault("writes\ngoody;", 3, 7);
        Edge.says(Edge.TERMS, "of one TOKEN the least:");
        Edge.fault("sea 12345;", 1, 4);
        Edge.fault("writes 1 12345;", 1, 9);
        Edge.fault(TWO + "way 0 12345 1;", 2, 22);
        Edge.fault("master 1;place 1;person 12345 5;", 2, 24);
        Edge.fault("writes ((((((place))))));", 2, 13);
        Edge.fault("way writes 1;", 1, 4);
        Edge.fault("writes 1 writes 1;", 1, 9);
        Edge.fault("sea master;", 1, 4);
        Edge.fault("master 1;master 1;master 1;master goods", 2, 27);
        Edge.fault(TWO + "way 0 2 61;", 3, 22);
    }

    /** Each LINE is cut behind each of its TOKENS, and has a TOKEN put in that can't stand there. */
    private static void misplaced() {
        Edge.says(Edge.TERMS, "1 a TOKEN that can't stand there, or is none (the text's length where it ends too soon);");
        String ahead = "";
        for (String line : EACH.split("(?<= ;) ")) {
            String[] tokens = line.split(" ");
            String cut = ahead;
            for (int i = 0; i < tokens.length; i++) {
                if (i > 0) {
                    Edge.fault(cut, 1, cut.length());
                    Edge.fault(cut + "  ", 1, cut.length() + 2);
                }
                boolean isRule = tokens[0].equals("writes") && i > 0;
                String[] signs = isRule && i > 1 ? new String[] {"!"} : new String[] {"!", "#", "*", ")", "=", "Z", "\t", "\u00e4"};
                for (String wrong : signs) {
                    Edge.fault(cut + " " + wrong + " ;", 1, cut.length() + 1);
                }
                boolean isNumber = tokens[i].matches("[0-9]+");
                for (String wrong : new String[] {"x", "goods", "not", "master", ";", "1", "12345"}) {
                    boolean isAlike = isNumber ? wrong.matches("[0-9]+") : wrong.equals(tokens[i]);
                    boolean isBeginning = i == 0 && wrong.equals("master");
                    if (!isAlike && !isBeginning && !isRule) {
                        Edge.fault(cut + " " + wrong + " ;", 1, cut.length() + 1);
                    }
                }
                cut = cut + (i == 0 ? "" : " ") + tokens[i];
            }
            ahead = cut + " ";
            Edge.stands(ahead);
        }
    }

    private static void misplacedInRules() {
        Edge.says(Edge.TERMS, "1 a TOKEN that can't stand there, or is none (the text's length where it ends too soon);");
        String[] ends = {"writes ", "writes (", "writes not ", "writes 1+", "writes 1-", "writes 1*", "writes 1/",
            "writes 1<", "writes 1=", "writes 1 or ", "writes 1 and ", "writes (1+"};
        for (String end : ends) {
            Edge.fault(end, 1, end.length());
            for (String wrong : new String[] {";", ")", "+", "-", "*", "/", "<", "=", "!", "G"}) {
                Edge.fault(end + wrong + "1;", 1, end.length());
            }
        }
        String[] parts = {"writes 1 ", "writes goods ", "writes (1) ", "writes not 1 ", "writes 1+1 ", "writes 1<1 ",
            "writes 1 or 1 ", "writes (1 "};
        for (String part : parts) {
            Edge.fault(part, 1, part.length());
            for (String wrong : new String[] {"1", "goods", "not 1", "(1)", "x", "sea", "!", "12345"}) {
                Edge.fault(part + wrong + ";", 1, part.length());
            }
        }
        Edge.fault("writes 1)", 1, 8);
        Edge.fault("writes (1;", 1, 9);
        Edge.fault("writes 1<1<1;", 1, 10);
        Edge.fault("writes 1<1=1;", 1, 10);
        Edge.fault("writes 1=1=1;", 1, 10);
        Edge.stands("writes (1<1)=1;");
    }

    private static void tooMuch() {
        Edge.says(Edge.TERMS, "2 one that can, but is too much: a NUMBER of 5 digits or more,");
        Edge.fault("master 00001;", 2, 7);
        Edge.fault("place 00001;", 2, 6);
        Edge.fault(TWO + "way 00000 1 1;", 2, 20);
        Edge.fault(TWO + "way 0 00001 1;", 2, 22);
        Edge.fault(TWO + "way 0 1 00001;", 2, 24);
        Edge.fault("place 1;person 00001 0;", 2, 15);
        Edge.fault("place 1;person 1 00000;", 2, 17);
        Edge.fault(PAIR + "kin 00000 1;", 2, 34);
        Edge.fault(PAIR + "kin 0 00001;", 2, 36);
        Edge.fault("master 1;" + PAIR + "friend 00000 1;", 2, 46);
        Edge.fault("master 1;" + PAIR + "foe 0 00001;", 2, 45);
        Edge.fault("writes 10000;", 2, 7);
        Edge.fault("writes 1+00001;", 2, 9);
        Edge.fault("writes (00001);", 2, 8);
        Edge.says(Edge.TERMS, "or (not in an EXPR) not as told,");
        Edge.fault("master 1000;", 2, 7);
        Edge.fault("master 9999;", 2, 7);
        Edge.fault("place 10;", 2, 6);
        Edge.fault(TWO + "way 0 1 61;", 2, 24);
        Edge.fault("place 1;person 100 0;", 2, 15);
        Edge.stands("writes 1000+9999;");
        Edge.stands("master 999;place 9;place 0;way 0 1 60;person 99 0;");
    }

    private static void tooMany() {
        Edge.says(Edge.TERMS, "the first TOKEN of the 4th MASTER,");
        Edge.stands("master 1;".repeat(3));
        Edge.fault("master 1;".repeat(3) + "master", 2, 27);
        Edge.fault("master 1;".repeat(3) + "master 1000;", 2, 27);
        Edge.says(Edge.TERMS, "the 9th PLACE (the SEA is one),");
        Edge.stands("place 1;".repeat(8));
        Edge.fault("place 1;".repeat(8) + "place", 2, 64);
        Edge.fault("place 1;".repeat(8) + "sea;", 2, 64);
        Edge.fault("sea;".repeat(8) + "sea;", 2, 32);
        Edge.fault("sea;".repeat(8) + "place 10;", 2, 32);
        Edge.says(Edge.TERMS, "the 13th WAY,");
        StringBuilder ways = new StringBuilder("sea;".repeat(8));
        for (int i = 0; i < 12; i++) {
            ways.append("way ").append(i / 6).append(' ').append(2 + i % 6).append(" 1;");
        }
        Edge.stands(ways.toString());
        Edge.fault(ways + "way 6 7 1;", 2, ways.length());
        Edge.fault(ways + "way", 2, ways.length());
        Edge.says(Edge.TERMS, "the 10th of PEOPLE,");
        String people = "sea;" + "person 1 0;".repeat(9);
        Edge.stands(people);
        Edge.fault(people + "person", 2, people.length());
        Edge.fault(people + "person 1 0;", 2, people.length());
        Edge.says(Edge.TERMS, "the 10th KIN,");
        StringBuilder kin = new StringBuilder(people + "kin 1 2;");
        for (int p = 1; p < 9; p++) {
            kin.append("kin 0 ").append(p).append(';');
        }
        Edge.stands(kin.toString());
        Edge.fault(kin + "kin 7 8;", 2, kin.length());
        Edge.fault(kin + "kin 9 9;", 2, kin.length());
        Edge.says(Edge.TERMS, "the 13th of FRIENDS and FOES,");
        for (String[] two : new String[][] {{"friend", "friend"}, {"foe", "foe"}, {"friend", "foe"}}) {
            StringBuilder ties = new StringBuilder(people + "master 1;master 1;");
            for (int i = 0; i < 12; i++) {
                ties.append(two[i % 2]).append(' ').append(i / 9).append(' ').append(i % 9).append(';');
            }
            Edge.stands(ties.toString());
            Edge.fault(ties + "friend 1 8;", 2, ties.length());
            Edge.fault(ties + "foe 1 8;", 2, ties.length());
            Edge.fault(ties + "foe", 2, ties.length());
        }
    }

    private static void within() {
        Edge.says(Edge.TERMS, "of an EXPR within 6 others (a NUMBER, any word, a parenthesis),");
        Edge.stands("writes (((((1)))));");
        Edge.stands("writes 1+(1+(1+(1+(1+(1)))));");
        Edge.stands("writes (((((1)))))+(((((1)))));");
        Edge.stands("writes (1)+(1)+(1)+(1)+(1)+(1)+(1)+(1);");
        String deep = "writes ((((((";
        for (String first : new String[] {"1", "9999", "12345", "goods", "kin", "x", "not", "or", "and", "sea", "("}) {
            Edge.fault(deep + first + "))))));", 2, 13);
            Edge.fault("writes not (((((" + "(" + first, 2, 17);
        }
        for (String first : new String[] {")", ";", "+", "-", "*", "/", "<", "=", "!", "G"}) {
            Edge.fault(deep + first + "))))));", 1, 13);
        }
        Edge.fault(deep, 1, 13);
        Edge.fault("writes (((((1)))))+((((((1))))));", 2, 25);
    }

    private static void nots() {
        Edge.says(Edge.TERMS, "the seventh 'not' side by side;");
        Edge.stands("writes " + NOTS + "1;");
        Edge.fault("writes " + NOTS + "not 1;", 2, 31);
        Edge.fault("writes " + NOTS + "not not 1;", 2, 31);
        Edge.fault("writes " + NOTS + "not", 2, 31);
        Edge.stands("writes " + NOTS + "(" + NOTS + "1);");
        Edge.stands("writes " + NOTS + "1 and " + NOTS + "1 or " + NOTS + "1;");
        Edge.fault("writes 1 or " + NOTS + "not 1;", 2, 36);
        Edge.fault("writes (" + NOTS + "not 1);", 2, 32);
        gives(NOTS + "7", 1);
        gives("not not not not not 7", 0);
    }

    private static void untold() {
        Edge.says(Edge.TERMS, "3 any word where a PART must stand that is no VALUE,");
        for (String word : "x z goody master place sea way person writes or and".split(" ")) {
            Edge.fault("writes " + word + ";", 3, 7);
            Edge.fault("writes (" + word + ");", 3, 8);
            Edge.fault("writes 1+" + word + ";", 3, 9);
            Edge.fault("writes 1*" + word + ";", 3, 9);
            Edge.fault("writes 1<" + word + ";", 3, 9);
            Edge.fault("writes 1 or " + word + ";", 3, 12);
            Edge.fault("writes not " + word + ";", 3, 11);
        }
        for (String sign : "+ - * / < =".split(" ")) {
            Edge.fault("writes 1" + sign + "not 1;", 3, 9);
        }
        for (String value : "goods debt foe friend kin listed day sales".split(" ")) {
            Edge.stands("writes " + value + ";");
        }
        Edge.says(Edge.TERMS, "a MASTER, a PLACE, one of PEOPLE that isn't told ahead;");
        Edge.fault("friend 0 0;", 3, 7);
        Edge.fault("foe 0 0;master 1;", 3, 4);
        Edge.fault("master 1;" + PAIR + "foe 1 0;", 3, 43);
        Edge.fault("master 1;master 1;master 1;" + PAIR + "foe 3 0;", 3, 61);
        Edge.fault("way 0 1 1;place 1;place 1;", 3, 4);
        Edge.fault(TWO + "way 2 0 1;", 3, 20);
        Edge.fault(TWO + "way 0 2 1;place 1;", 3, 22);
        Edge.fault(TWO + "way 0 9999 1;", 3, 22);
        Edge.fault("place 1;".repeat(8) + "way 0 8 1;", 3, 70);
        Edge.fault("person 1 0;", 3, 9);
        Edge.fault("place 1;person 1 1;sea;", 3, 17);
        Edge.fault(PAIR + "kin 2 0;", 3, 34);
        Edge.fault(PAIR + "kin 0 2;person 1 0;", 3, 36);
        Edge.fault("master 1;" + PAIR + "friend 0 2;", 3, 48);
        Edge.fault("master 1;friend 0 0;", 3, 18);
    }

    private static void twice() {
        Edge.says(Edge.TERMS, "4 the second one of a WAY, of KIN that is the first one, or has one with it;");
        Edge.fault(TWO + "way 0 0 1;", 4, 22);
        Edge.fault(TWO + "way 1 1 61;", 4, 22);
        Edge.fault(TWO + "way 0 1 1;way 0 1 2;", 4, 32);
        Edge.fault(TWO + "way 0 1 1;way 1 0 2;", 4, 32);
        Edge.fault(TWO + "way 0 1 0;way 1 0 0;", 4, 32);
        Edge.stands(TWO + "place 3;way 0 1 1;way 1 2 1;way 2 0 1;");
        Edge.fault("sea;sea;way 0 1 1;way 0 1 1;", 4, 24);
        Edge.fault(PAIR + "kin 0 0;", 4, 36);
        Edge.fault(PAIR + "kin 1 1;", 4, 36);
        Edge.fault(PAIR + "kin 0 1;kin 0 1;", 4, 44);
        Edge.fault(PAIR + "kin 0 1;kin 1 0;", 4, 44);
        Edge.stands(PAIR + "person 1 0;kin 0 1;kin 1 2;kin 2 0;");
        Edge.says(Edge.TERMS, "one of PEOPLE who is a FRIEND or FOE of that MASTER already;");
        for (String first : new String[] {"friend", "foe"}) {
            for (String second : new String[] {"friend", "foe"}) {
                String text = "master 1;master 1;" + PAIR + first + " 0 1;";
                Edge.fault(text + second + " 0 1;", 4, text.length() + second.length() + 3);
                Edge.stands(text + second + " 1 1;" + second + " 0 0;");
            }
        }
    }

    private static void secondRule() {
        Edge.says(Edge.TERMS, "5 a second 'writes'.");
        Edge.stands("writes 1;");
        Edge.fault("writes 1;writes 1;", 5, 9);
        Edge.fault("writes 0;sea;writes", 5, 13);
        Edge.fault("writes 1;writes x;", 5, 9);
        Edge.fault("writes 1;sea writes 1;", 1, 13);
    }
}
