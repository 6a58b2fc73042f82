import java.util.NoSuchElementException;

/**
 * The list on the white board, and what it brings. The words in capitals are those of the document.
 * Sets of MASTERS, PLACES or PEOPLE are bits of an int: the one with number i is the bit 1 &lt;&lt; i.
 */
public final class WhiteBoard {
    public static final int NONE = -1;

    /** Stands where a MASTER's number would, for a name that the scribe wrote. */
    private static final int SCRIBE = -2;
    private static final int MOST_BYTES = 700;
    private static final int FEED_BYTES = 20;
    private static final int MOST_MASTERS = 3;
    private static final int MOST_PLACES = 8;
    private static final int MOST_WAYS = 12;
    private static final int MOST_PEOPLE = 9;
    private static final int MOST_KIN = 9;
    private static final int MOST_TIES = 12;
    private static final int MOST_ACTS = 40;
    private static final int MOST_MORNINGS = 20;
    private static final int MOST_SEEN = 8;
    private static final int LAST_DAY = 60;
    private static final int AHEAD = 30;
    private static final int SCRIBE_DAYS = 10;
    private static final int MOST_PAIRS = MOST_PEOPLE * SCRIBE_DAYS;

    private static final int STATUS_TEXT = 0;
    private static final int STATUS_ACT = 1;
    private static final int STATUS_SEEN = 2;

    private final int[] tape = new int[MOST_BYTES];
    private int bytes;
    private int faultPlace = NONE;
    private final int[] status = new int[3];
    private Board board = new Board();
    /** A TEXT is read into this one, so that a FAULT leaves the other as it is. */
    private Board spare = new Board();
    private final Reader reader = new Reader(spare);
    private final Story story = new Story();
    private final Story image = new Story();
    private boolean hasImage;
    private final Forecast forecast = new Forecast(board);
    private final Inquiry inquiry = new Inquiry();
    private final Lottery lottery = new Lottery();

    public WhiteBoard() {
        story.begin(board);
    }

    // ---- the tape and the board

    public int feed(int a, int b, int c, int d, int e) {
        if (bytes + FEED_BYTES > MOST_BYTES) {
            return NONE;
        }
        feedNumber(a);
        feedNumber(b);
        feedNumber(c);
        feedNumber(d);
        feedNumber(e);
        return bytes;
    }

    private void feedNumber(int number) {
        for (int shift = 24; shift >= 0; shift -= 8) {
            put(tape, bytes, (number >> shift) & 255);
            bytes++;
        }
    }

    public int board(int n) throws IllegalArgumentException {
        if (n < 0 || n > bytes) {
            throw new IllegalArgumentException("the tape has not so many bytes");
        }
        bytes = 0;
        int fault = reader.read(tape, n, spare);
        faultPlace = reader.faultPlace;
        if (fault != 0) {
            refuse(STATUS_TEXT);
            return fault;
        }
        Board told = spare;
        spare = board;
        board = told;
        story.begin(board);
        hasImage = false;
        return 0;
    }

    public int fault() {
        return faultPlace;
    }

    private void refuse(int what) {
        put(status, what, at(status, what) + 1);
    }

    // ---- what there is

    public int count(int what) throws NoSuchElementException {
        Moment now = story.now;
        switch (what) {
            case 0: return board.masters;
            case 1: return board.land.places;
            case 2: return board.land.ways;
            case 3: return board.people;
            case 4: return now.day;
            case 5: return now.list;
            case 6: return now.dead;
            case 7: return now.away(board);
            case 8: return now.sales;
            case 9: return now.isOpen ? 1 : 0;
            case 10: return board.allKin(now.list) & ~now.list;
            case 11: return story.acts;
            case 12: return story.seen;
            case 13: return bytes;
            case 14: return at(status, STATUS_TEXT);
            case 15: return at(status, STATUS_ACT);
            case 16: return at(status, STATUS_SEEN);
            default: throw new NoSuchElementException("no such count");
        }
    }

    public int master(int master, int what) throws NoSuchElementException {
        needMaster(master);
        switch (what) {
            case 0: return at(story.now.debt, master);
            case 1: return at(board.friends, master);
            case 2: return at(board.foes, master);
            case 3: return story.now.writtenBy(master);
            default: throw new NoSuchElementException("no such thing of a master");
        }
    }

    public int place(int place, int what) throws NoSuchElementException {
        needPlace(place);
        switch (what) {
            case 0: return at(board.land.danger, place);
            case 1: return story.now.peopleAt(board, place);
            case 2: return Integer.bitCount(board.land.beyond(bit(place), NONE, NONE));
            default: throw new NoSuchElementException("no such thing of a place");
        }
    }

    public int person(int person, int what) throws NoSuchElementException {
        needPerson(person);
        switch (what) {
            case 0: return at(board.goods, person);
            case 1: return at(story.now.where, person);
            case 2: return at(board.kin, person);
            case 3: return at(story.now.since, person);
            case 4: return at(story.now.writer, person);
            case 5: return story.now.price(board, person);
            default: throw new NoSuchElementException("no such thing of a person");
        }
    }

    public int grudge(int master, int person) throws NoSuchElementException {
        needMaster(master);
        needPerson(person);
        return story.now.spite(board, master, person);
    }

    public int sought() {
        return story.now.hunted(board);
    }

    // ---- acts

    public int mornings(int many) {
        if (many < 1 || many > MOST_MORNINGS || story.now.day + many > LAST_DAY) {
            refuse(STATUS_ACT);
            return NONE;
        }
        story.keepAct();
        forecast.begin(board, story.now);
        forecast.run(many);
        story.now.copy(forecast.then);
        return story.now.day;
    }

    public int go(int person, int way) throws NoSuchElementException {
        needPerson(person);
        needWay(way);
        Moment now = story.now;
        int there = board.land.across(way, at(now.where, person));
        if (now.isGone(board, person) || there == NONE || !board.land.isPassable(way, now.day, NONE)) {
            refuse(STATUS_ACT);
            return NONE;
        }
        story.keepAct();
        put(now.where, person, there);
        return there;
    }

    public boolean write(int person) throws NoSuchElementException {
        needPerson(person);
        if (has(story.now.list, person)) {
            refuse(STATUS_ACT);
            return false;
        }
        story.keepAct();
        story.now.enter(person, SCRIBE);
        return true;
    }

    public int strike(int person) throws NoSuchElementException {
        needPerson(person);
        Moment now = story.now;
        if (!has(now.list, person) || has(now.dead, person)) {
            refuse(STATUS_ACT);
            return NONE;
        }
        story.keepAct();
        int writer = at(now.writer, person);
        now.erase(person);
        return writer;
    }

    public boolean open(boolean is) {
        if (story.now.isOpen == is) {
            refuse(STATUS_ACT);
            return false;
        }
        story.keepAct();
        story.now.isOpen = is;
        return true;
    }

    public int undo() {
        if (story.acts == 0) {
            return NONE;
        }
        story.takeBack();
        return story.acts;
    }

    public void image() {
        image.copy(story);
        hasImage = true;
    }

    public boolean restore() {
        if (!hasImage) {
            return false;
        }
        story.copy(image);
        return true;
    }

    // ---- what comes, if only mornings go by

    /** Lets 30 MORNINGS go by in the forecast alone. */
    private void lookAhead() {
        forecast.begin(board, story.now);
        forecast.run(AHEAD);
    }

    /** The DAY that WHEN tells; it reaches the forecast itself to keep the calls shallow. */
    private int writingDay(int person) {
        if (has(story.now.list, person)) {
            return at(story.now.since, person);
        }
        forecast.begin(board, story.now);
        forecast.run(AHEAD);
        return at(forecast.then.since, person);
    }

    public int when(int person, int what) throws NoSuchElementException {
        needPerson(person);
        needWhat(what, 2);
        lookAhead();
        return what == 0 ? at(forecast.then.since, person) : at(forecast.then.writer, person);
    }

    public int found(int person) throws NoSuchElementException {
        needPerson(person);
        lookAhead();
        return at(forecast.foundOn, person);
    }

    public int next(int i) throws IllegalArgumentException {
        if (i < 0) {
            throw new IllegalArgumentException("names are counted from 0 on");
        }
        lookAhead();
        return forecast.name(i);
    }

    public int owes(int master, int mornings) throws NoSuchElementException, IllegalArgumentException {
        needMaster(master);
        if (mornings < 0 || mornings > AHEAD) {
            throw new IllegalArgumentException("0 to 30 mornings");
        }
        forecast.begin(board, story.now);
        forecast.run(mornings);
        return at(forecast.then.debt, master);
    }

    public int instead(int person) throws NoSuchElementException {
        needPerson(person);
        if (has(story.now.list, person)) {
            return NONE;
        }
        lookAhead();
        // Up to this one's own place in the order the names are the same with and without this one.
        int order = forecast.orderOf(person);
        if (order == NONE) {
            return NONE;
        }
        forecast.begin(board, story.now);
        forecast.passedOver = person;
        forecast.run(AHEAD);
        return forecast.name(order);
    }

    public int close(int dead) throws IllegalArgumentException {
        if (dead < 0 || dead > 9) {
            throw new IllegalArgumentException("0 to 9 dead");
        }
        int day = story.now.day;
        for (int after = Math.min(AHEAD, LAST_DAY - day); after >= 0; after--) {
            if (Integer.bitCount(deadIfClosed(after)) <= dead) {
                return day + after;
            }
        }
        return NONE;
    }

    public int spared() {
        int closed = deadIfClosed(0);
        lookAhead();
        return forecast.then.dead & ~closed;
    }

    private int deadIfClosed(int after) {
        forecast.begin(board, story.now);
        forecast.closedAfter = after;
        forecast.run(AHEAD);
        return forecast.then.dead;
    }

    public int richest() {
        lookAhead();
        int best = NONE;
        int most = 0;
        for (int m = 0; m < board.masters; m++) {
            if (at(forecast.brought, m) > most) {
                most = at(forecast.brought, m);
                best = m;
            }
        }
        return best;
    }

    public int worst(int what) throws NoSuchElementException {
        needWhat(what, 2);
        lookAhead();
        int morning = NONE;
        int most = 0;
        for (int i = 0; i < forecast.mornings; i++) {
            if (at(forecast.foundIn, i) > most) {
                most = at(forecast.foundIn, i);
                morning = i;
            }
        }
        if (what == 1) {
            return most;
        }
        return morning == NONE ? NONE : story.now.day + morning;
    }

    public int idle() {
        lookAhead();
        return forecast.idleDay;
    }

    public int stay(int person, int place) throws NoSuchElementException {
        needPerson(person);
        needPlace(place);
        if (has(story.now.dead, person)) {
            return NONE;
        }
        int written = writingDay(person);
        int day = story.now.day;
        int end = Math.min(day + AHEAD, LAST_DAY);
        for (int d = day; d < end; d++) {
            if (board.land.betrays(place, written, d)) {
                return d;
            }
        }
        return NONE;
    }

    // ---- ways

    public int out(int person) throws NoSuchElementException {
        needPerson(person);
        if (has(story.now.dead, person)) {
            return NONE;
        }
        return board.land.soonestOut(at(story.now.where, person), story.now.day, writingDay(person), NONE);
    }

    public int gate(int person) throws NoSuchElementException {
        needPerson(person);
        if (has(story.now.dead, person)) {
            return NONE;
        }
        int place = at(story.now.where, person);
        int written = writingDay(person);
        if (board.land.soonestOut(place, story.now.day, written, NONE) != NONE) {
            return NONE;
        }
        for (int way = 0; way < board.land.ways; way++) {
            if (board.land.soonestOut(place, story.now.day, written, way) != NONE) {
                return way;
            }
        }
        return NONE;
    }

    public int surest(int person, int days) throws NoSuchElementException, IllegalArgumentException {
        needPerson(person);
        if (days < 1 || days > 9) {
            throw new IllegalArgumentException("1 to 9 days");
        }
        if (has(story.now.dead, person)) {
            return 0;
        }
        return board.land.surestChance(at(story.now.where, person), story.now.day, days, writingDay(person));
    }

    public int far(int place, int other) throws NoSuchElementException {
        needPlace(place);
        needPlace(other);
        int reached = bit(place);
        for (int ways = 0; ways < MOST_PLACES; ways++) {
            if (has(reached, other)) {
                return ways;
            }
            reached |= board.land.beyond(reached, NONE, NONE);
        }
        return NONE;
    }

    public int refuge(int person) throws NoSuchElementException {
        needPerson(person);
        return board.land.safest(at(story.now.where, person), story.now.day);
    }

    // ---- what is seen, and the scribe

    public int see(int person, int i, boolean listed) throws NoSuchElementException {
        needPerson(person);
        if (story.seen >= MOST_SEEN || i < 0 || i >= AHEAD) {
            refuse(STATUS_SEEN);
            return NONE;
        }
        story.addSeen(person, i, listed);
        return story.seen;
    }

    public void forget() {
        story.seen = 0;
    }

    public int scribe(int what) throws NoSuchElementException {
        needWhat(what, 3);
        if (what == 2) {
            lookAhead();
            return story.isSeenIn(forecast) ? 1 : 0;
        }
        inquiry.weigh(board, story, forecast);
        return what == 0 ? inquiry.pairs : inquiry.first;
    }

    public int tells(int what) throws NoSuchElementException {
        needWhat(what, 2);
        inquiry.weigh(board, story, forecast);
        int best = NONE;
        int most = 0;
        for (int i = 0; i < inquiry.mornings; i++) {
            int unlike = inquiry.unlikeLists(i);
            if (unlike > most) {
                most = unlike;
                best = i;
            }
        }
        return what == 0 ? best : most;
    }

    // ---- rolls, bargains, lists, kin

    public int roll(int sum) throws IllegalArgumentException {
        if (sum < 0 || sum > 999) {
            throw new IllegalArgumentException("0 to 999");
        }
        int best = NONE;
        for (int some = 0; some < bit(MOST_PEOPLE); some++) {
            boolean fewer = best == NONE || Integer.bitCount(some) < Integer.bitCount(best);
            if ((some & ~story.now.dead) == 0 && fewer && board.goodsOf(some) == sum) {
                best = some;
            }
        }
        return best;
    }

    public int bargain(int master, int other, int what) throws NoSuchElementException, IllegalArgumentException {
        needMaster(master);
        needMaster(other);
        needWhat(what, 2);
        if (master == other) {
            throw new IllegalArgumentException("a bargain is of two masters");
        }
        int mine = board.firstFriendOff(story.now.list, master);
        int theirs = board.firstFriendOff(story.now.list, other);
        int myPrize = theirs != NONE && has(at(board.foes, master), theirs) ? 5 : 0;
        int theirPrize = mine != NONE && has(at(board.foes, other), mine) ? 5 : 0;
        int many = 0;
        int first = NONE;
        for (int couple = 3; couple >= 0; couple--) {
            int x = couple >> 1;
            int y = couple & 1;
            if (isContent(x, y, myPrize, mine != NONE) && isContent(y, x, theirPrize, theirs != NONE)) {
                many++;
                first = 10 * x + y;
            }
        }
        return what == 0 ? many : first;
    }

    /** Whether a MASTER can choose so, and would not gain more by his other choice. */
    private static boolean isContent(int choice, int others, int prize, boolean hasFriend) {
        if (!hasFriend) {
            return choice == 0;
        }
        return gain(1 - choice, others, prize) <= gain(choice, others, prize);
    }

    private static int gain(int choice, int others, int prize) {
        int gained = others * prize - 3 * choice;
        return choice == 0 && others == 0 ? gained - 1 : gained;
    }

    public int lists(int seed, int n, int what) throws NoSuchElementException, IllegalArgumentException {
        needWhat(what, 3);
        if (n < 0 || n > 60) {
            throw new IllegalArgumentException("0 to 60 mornings");
        }
        lottery.play(board, story.now, seed, n);
        switch (what) {
            case 0: return Integer.bitCount(lottery.then.dead);
            case 1: return lottery.then.debts(board);
            default: return lottery.worthless;
        }
    }

    public int steps(int person, int other) throws NoSuchElementException {
        needPerson(person);
        needPerson(other);
        int reached = bit(person);
        for (int steps = 0; steps < MOST_PEOPLE; steps++) {
            if (has(reached, other)) {
                return steps;
            }
            reached |= board.kinOf(reached);
        }
        return NONE;
    }

    // ---- what calls must name

    private void needMaster(int master) {
        if (master < 0 || master >= board.masters) {
            throw new NoSuchElementException("no such master");
        }
    }

    private void needPlace(int place) {
        if (place < 0 || place >= board.land.places) {
            throw new NoSuchElementException("no such place");
        }
    }

    private void needWay(int way) {
        if (way < 0 || way >= board.land.ways) {
            throw new NoSuchElementException("no such way");
        }
    }

    private void needPerson(int person) {
        if (person < 0 || person >= board.people) {
            throw new NoSuchElementException("no such person");
        }
    }

    private static void needWhat(int what, int kinds) {
        if (what < 0 || what >= kinds) {
            throw new NoSuchElementException("no such question");
        }
    }

    // ---- rows and bits: no index is used that was not looked at

    private static int at(int[] row, int i) {
        return i >= 0 && i < row.length ? row[i] : 0;
    }

    private static void put(int[] row, int i, int value) {
        if (i >= 0 && i < row.length) {
            row[i] = value;
        }
    }

    private static void copyRow(int[] from, int[] to) {
        System.arraycopy(from, 0, to, 0, Math.min(from.length, to.length));
    }

    private static void fill(int[] row, int value) {
        for (int i = 0; i < row.length; i++) {
            row[i] = value;
        }
    }

    private static int bit(int i) {
        return 1 << i;
    }

    private static boolean has(int bits, int i) {
        return (bits & bit(i)) != 0;
    }

    /** The PLACES and WAYS of a BOARD, and what can be found on them. */
    private static final class Land {
        int places;
        int ways;
        /** NONE is the SEA. */
        final int[] danger = new int[MOST_PLACES];
        final int[] from = new int[MOST_WAYS];
        final int[] to = new int[MOST_WAYS];
        final int[] gate = new int[MOST_WAYS];
        private final int[] best = new int[MOST_PLACES];
        private final int[] kept = new int[MOST_PLACES];

        void addPlace(int itsDanger) {
            put(danger, places, itsDanger);
            places++;
        }

        void addWay(int first, int second, int itsGate) {
            put(from, ways, first);
            put(to, ways, second);
            put(gate, ways, itsGate);
            ways++;
        }

        boolean isSea(int place) {
            return at(danger, place) == NONE;
        }

        int seas() {
            int seas = 0;
            for (int p = 0; p < places; p++) {
                if (isSea(p)) {
                    seas |= bit(p);
                }
            }
            return seas;
        }

        /** Open on that DAY, or the one WAY that is taken as never shut; on the DAY NONE all are open. */
        boolean isPassable(int way, int day, int neverShut) {
            return way == neverShut || day < at(gate, way);
        }

        /** The other end of a WAY; NONE, if the WAY does not touch the PLACE. */
        int across(int way, int place) {
            if (at(from, way) == place) {
                return at(to, way);
            }
            return at(to, way) == place ? at(from, way) : NONE;
        }

        /** The PLACES at the other ends of the passable WAYS from these. */
        int beyond(int these, int day, int neverShut) {
            int others = 0;
            for (int way = 0; way < ways; way++) {
                if (isPassable(way, day, neverShut)) {
                    others |= has(these, at(from, way)) ? bit(at(to, way)) : 0;
                    others |= has(these, at(to, way)) ? bit(at(from, way)) : 0;
                }
            }
            return others;
        }

        /** Whether one there is FOUND in the MORNING of a DAY; written may be NONE, or to come. */
        boolean betrays(int place, int written, int day) {
            if (isSea(place) || written == NONE || written > day) {
                return false;
            }
            return at(danger, place) + day - written >= 10;
        }

        int soonestOut(int place, int today, int written, int neverShut) {
            int last = Math.min(today + AHEAD, LAST_DAY);
            int seas = seas();
            int here = bit(place);
            for (int day = today; day <= last; day++) {
                here |= beyond(here, day, neverShut);
                if ((here & seas) != 0) {
                    return day;
                }
                here = unfound(here, written, day);
            }
            return NONE;
        }

        private int unfound(int these, int written, int day) {
            int left = these;
            for (int p = 0; p < places; p++) {
                if (betrays(p, written, day)) {
                    left &= ~bit(p);
                }
            }
            return left;
        }

        /** From the last of these DAYS back to this one, the best chance from every PLACE. */
        int surestChance(int place, int today, int days, int written) {
            fill(best, 1);
            for (int day = today + days - 1; day >= today; day--) {
                for (int p = 0; p < places; p++) {
                    put(kept, p, at(best, p) * tenthsUnfound(p, written, day));
                }
                for (int p = 0; p < places; p++) {
                    put(best, p, bestStep(p, day));
                }
            }
            return at(best, place);
        }

        /** Each DAY that is asked about has its MORNING here, the last one and those behind it, too. */
        private int tenthsUnfound(int place, int written, int day) {
            if (isSea(place) || written == NONE || written > day) {
                return 10;
            }
            return 10 - at(danger, place);
        }

        private int bestStep(int place, int day) {
            int most = at(kept, place);
            if (isSea(place)) {
                return most;
            }
            int others = beyond(bit(place), day, NONE);
            for (int p = 0; p < places; p++) {
                if (has(others, p)) {
                    most = Math.max(most, at(kept, p));
                }
            }
            return most;
        }

        /** Nobody goes on from a SEA, so none is passed through. */
        int safest(int place, int day) {
            int land = ~seas();
            int reached = bit(place);
            for (int ways = 0; ways < MOST_PLACES; ways++) {
                reached |= beyond(reached & land, day, NONE);
            }
            int safest = place;
            for (int p = places - 1; p >= 0; p--) {
                if (has(reached, p) && at(danger, p) <= at(danger, safest)) {
                    safest = p;
                }
            }
            return safest;
        }
    }

    /** What a BOARD's TEXT tells; all of it stays as it is while DAYS go by. */
    private static final class Board {
        final Land land = new Land();
        final Rule rule = new Rule();
        int masters;
        final int[] debt = new int[MOST_MASTERS];
        final int[] friends = new int[MOST_MASTERS];
        final int[] foes = new int[MOST_MASTERS];
        int people;
        final int[] goods = new int[MOST_PEOPLE];
        final int[] home = new int[MOST_PEOPLE];
        final int[] kin = new int[MOST_PEOPLE];
        int kins;
        /** FRIENDS and FOES together, as they were told: a BARGAIN asks for the first one. */
        int ties;
        final int[] tieMaster = new int[MOST_TIES];
        final int[] tiePerson = new int[MOST_TIES];

        void clear() {
            land.places = 0;
            land.ways = 0;
            rule.clear();
            masters = 0;
            people = 0;
            kins = 0;
            ties = 0;
        }

        void addMaster(int hisDebt) {
            put(debt, masters, hisDebt);
            put(friends, masters, 0);
            put(foes, masters, 0);
            masters++;
        }

        void addPerson(int theirGoods, int place) {
            put(goods, people, theirGoods);
            put(home, people, place);
            put(kin, people, 0);
            people++;
        }

        void addKin(int first, int second) {
            put(kin, first, at(kin, first) | bit(second));
            put(kin, second, at(kin, second) | bit(first));
            kins++;
        }

        void addTie(int master, int person, boolean isFriend) {
            int[] row = isFriend ? friends : foes;
            put(row, master, at(row, master) | bit(person));
            put(tieMaster, ties, master);
            put(tiePerson, ties, person);
            ties++;
        }

        int tied(int master) {
            return at(friends, master) | at(foes, master);
        }

        int kinOf(int these) {
            int all = 0;
            for (int p = 0; p < people; p++) {
                if (has(these, p)) {
                    all |= at(kin, p);
                }
            }
            return all;
        }

        /** These and all who are KIN of them by any steps. */
        int allKin(int these) {
            int all = these;
            for (int steps = 0; steps < MOST_PEOPLE; steps++) {
                all |= kinOf(all);
            }
            return all;
        }

        int goodsOf(int these) {
            int sum = 0;
            for (int p = 0; p < people; p++) {
                sum += has(these, p) ? at(goods, p) : 0;
            }
            return sum;
        }

        int firstFriendOff(int list, int master) {
            for (int tie = 0; tie < ties; tie++) {
                int person = at(tiePerson, tie);
                if (at(tieMaster, tie) == master && has(at(friends, master), person) && !has(list, person)) {
                    return person;
                }
            }
            return NONE;
        }
    }

    /** A rule as a row of codes: a number is itself, all else is below 0; what works on values stands behind them. */
    private static final class Rule {
        static final int GOODS = -1;
        static final int DEBT = -2;
        static final int FOE = -3;
        static final int FRIEND = -4;
        static final int KIN = -5;
        static final int LISTED = -6;
        static final int DAY = -7;
        static final int SALES = -8;
        static final int OR = -9;
        static final int AND = -10;
        static final int NOT = -11;
        static final int LESS = -12;
        static final int SAME = -13;
        static final int PLUS = -14;
        static final int MINUS = -15;
        static final int TIMES = -16;
        static final int OVER = -17;

        private final int[] codes = new int[MOST_BYTES];
        private int length;
        private final int[] facts = new int[-SALES];
        /** Five values wait at most in each of six EXPRS within one another. */
        private final int[] stack = new int[40];

        void clear() {
            length = 0;
        }

        boolean isTold() {
            return length > 0;
        }

        void add(int code) {
            put(codes, length, code);
            length++;
        }

        void setFact(int value, int fact) {
            put(facts, -1 - value, fact);
        }

        int value() {
            int top = 0;
            for (int i = 0; i < length; i++) {
                int code = at(codes, i);
                if (code >= SALES) {
                    put(stack, top, code >= 0 ? code : at(facts, -1 - code));
                    top++;
                } else if (code == NOT) {
                    put(stack, top - 1, at(stack, top - 1) == 0 ? 1 : 0);
                } else {
                    top--;
                    put(stack, top - 1, apply(code, at(stack, top - 1), at(stack, top)));
                }
            }
            return at(stack, 0);
        }

        private static int apply(int code, int a, int b) {
            switch (code) {
                case OR: return a != 0 || b != 0 ? 1 : 0;
                case AND: return a != 0 && b != 0 ? 1 : 0;
                case LESS: return a < b ? 1 : 0;
                case SAME: return a == b ? 1 : 0;
                case PLUS: return a + b;
                case MINUS: return a - b;
                case TIMES: return a * b;
                default: return b == 0 ? 0 : a / b;
            }
        }
    }

    /** The words of a BOARD; a VALUE among them has its code in a rule. */
    private enum Word {
        MASTER("master", 0),
        PLACE("place", 0),
        SEA("sea", 0),
        WAY("way", 0),
        PERSON("person", 0),
        WRITES("writes", 0),
        OR("or", 0),
        AND("and", 0),
        NOT("not", 0),
        FOE("foe", Rule.FOE),
        FRIEND("friend", Rule.FRIEND),
        KIN("kin", Rule.KIN),
        GOODS("goods", Rule.GOODS),
        DEBT("debt", Rule.DEBT),
        LISTED("listed", Rule.LISTED),
        DAY("day", Rule.DAY),
        SALES("sales", Rule.SALES);

        final String text;
        final int value;

        Word(String text, int value) {
            this.text = text;
            this.value = value;
        }
    }

    /** A TEXT cut into TOKENS, and the one among them that is looked at. */
    private static final class Tokens {
        static final int END = 0;
        static final int STRANGE = 1;
        static final int WORD = 2;
        static final int NUMBER = 3;
        static final int SIGN = 4;
        static final int MOST = MOST_BYTES + 1;

        private static final Word[] WORDS = Word.values();

        private int[] text = new int[0];
        private int length;
        private int size;
        private final int[] kinds = new int[MOST];
        private final int[] starts = new int[MOST];
        private final int[] values = new int[MOST];
        private int current;
        /** Of the TOKEN that is looked at. */
        int kind;
        int start;
        /** A word's place among WORDS, a number's value (NONE: too many digits), a sign itself. */
        int value;

        void cut(int[] bytes, int many) {
            text = bytes;
            length = Math.min(many, bytes.length);
            size = 0;
            int from = 0;
            for (int turn = 0; turn < MOST && from < length; turn++) {
                from = isBlank(at(text, from)) ? from + 1 : cutOne(from);
            }
            add(END, length, 0);
            current = NONE;
            step();
        }

        private void add(int kind, int start, int value) {
            put(kinds, size, kind);
            put(starts, size, start);
            put(values, size, value);
            size++;
        }

        /** Adds the TOKEN that begins there, and answers where it ends. */
        private int cutOne(int from) {
            int first = at(text, from);
            if (isLetter(first)) {
                return cutWord(from);
            }
            if (isDigit(first)) {
                return cutNumber(from);
            }
            add(isSign(first) ? SIGN : STRANGE, from, first);
            return from + 1;
        }

        private int cutWord(int from) {
            int end = from;
            for (int i = from; i < length && isLetter(at(text, i)); i++) {
                end = i + 1;
            }
            int which = NONE;
            for (int i = 0; i < WORDS.length; i++) {
                if (spells(WORDS[i].text, from, end)) {
                    which = i;
                }
            }
            add(WORD, from, which);
            return end;
        }

        private boolean spells(String word, int from, int end) {
            if (word.length() != end - from) {
                return false;
            }
            for (int i = 0; i < word.length(); i++) {
                if (word.charAt(i) != at(text, from + i)) {
                    return false;
                }
            }
            return true;
        }

        private int cutNumber(int from) {
            int end = from;
            int number = 0;
            for (int i = from; i < length && isDigit(at(text, i)); i++) {
                number = i - from < 4 ? number * 10 + at(text, i) - '0' : NONE;
                end = i + 1;
            }
            add(NUMBER, from, number);
            return end;
        }

        private static boolean isBlank(int c) {
            return c == 32 || c == 10;
        }

        private static boolean isLetter(int c) {
            return c >= 'a' && c <= 'z';
        }

        private static boolean isDigit(int c) {
            return c >= '0' && c <= '9';
        }

        private static boolean isSign(int c) {
            switch (c) {
                case ';': case '(': case ')': case '+': case '-': case '*': case '/': case '<': case '=':
                    return true;
                default:
                    return false;
            }
        }

        /** On to the next TOKEN; the END stays where it is. */
        void step() {
            if (current < size - 1) {
                current++;
            }
            kind = at(kinds, current);
            start = at(starts, current);
            value = at(values, current);
        }

        boolean isSignNow(int sign) {
            return kind == SIGN && value == sign;
        }

        /** The word that stands here; null, if none of WORDS does. */
        Word word() {
            return kind == WORD && value >= 0 && value < WORDS.length ? WORDS[value] : null;
        }
    }

    /** Reads a TEXT into a Board up to its first FAULT. */
    private static final class Reader {
        private static final int MISPLACED = 1;
        private static final int TOO_MUCH = 2;
        private static final int UNTOLD = 3;
        private static final int TWICE = 4;
        private static final int SECOND_RULE = 5;
        private static final int MOST_WITHIN = 6;
        private static final int MOST_NOTS = 6;

        private final Tokens tokens = new Tokens();
        private Board board;
        private int fault;
        int faultPlace = NONE;

        Reader(Board first) {
            board = first;
        }

        /** Answers 0, or the FAULT; its place is kept. */
        int read(int[] text, int length, Board into) {
            tokens.cut(text, length);
            board = into;
            board.clear();
            fault = 0;
            faultPlace = NONE;
            for (int i = 0; i < Tokens.MOST && fault == 0 && tokens.kind != Tokens.END; i++) {
                readLine();
            }
            return fault;
        }

        private void fail(int which) {
            if (fault == 0) {
                fault = which;
                faultPlace = tokens.start;
            }
        }

        private void readLine() {
            Word word = tokens.word();
            if (word == null) {
                fail(MISPLACED);
                return;
            }
            switch (word) {
                case MASTER: readMaster(); break;
                case PLACE: readPlace(9); break;
                case SEA: readPlace(NONE); break;
                case WAY: readWay(); break;
                case PERSON: readPerson(); break;
                case KIN: readKin(); break;
                case FRIEND: readTie(true); break;
                case FOE: readTie(false); break;
                case WRITES: readRule(); break;
                default: fail(MISPLACED);
            }
            expectSign(';');
        }

        /** Steps behind a LINE's first word, if there may be one more of its kind. */
        private void beginLine(int many, int most) {
            if (many >= most) {
                fail(TOO_MUCH);
            } else {
                tokens.step();
            }
        }

        private void expectSign(int sign) {
            if (fault == 0) {
                if (tokens.isSignNow(sign)) {
                    tokens.step();
                } else {
                    fail(MISPLACED);
                }
            }
        }

        private int readNumber(int most) {
            if (fault != 0) {
                return 0;
            }
            int number = tokens.value;
            if (tokens.kind != Tokens.NUMBER) {
                fail(MISPLACED);
            } else if (number == NONE || number > most) {
                fail(TOO_MUCH);
            }
            stepIfRight();
            return number;
        }

        /** The number of one that is told ahead and is not among those who are barred. */
        private int readOne(int told, int barred) {
            if (fault != 0) {
                return 0;
            }
            int number = tokens.value;
            if (tokens.kind != Tokens.NUMBER) {
                fail(MISPLACED);
            } else if (number == NONE) {
                fail(TOO_MUCH);
            } else if (number >= told) {
                fail(UNTOLD);
            } else if (has(barred, number)) {
                fail(TWICE);
            }
            stepIfRight();
            return number;
        }

        private void stepIfRight() {
            if (fault == 0) {
                tokens.step();
            }
        }

        private void readMaster() {
            beginLine(board.masters, MOST_MASTERS);
            int debt = readNumber(999);
            if (fault == 0) {
                board.addMaster(debt);
            }
        }

        private void readPlace(int mostDanger) {
            beginLine(board.land.places, MOST_PLACES);
            int danger = mostDanger == NONE ? NONE : readNumber(mostDanger);
            if (fault == 0) {
                board.land.addPlace(danger);
            }
        }

        private void readWay() {
            beginLine(board.land.ways, MOST_WAYS);
            int first = readOne(board.land.places, 0);
            int second = readOne(board.land.places, bit(first) | board.land.beyond(bit(first), NONE, NONE));
            int gate = readNumber(LAST_DAY);
            if (fault == 0) {
                board.land.addWay(first, second, gate);
            }
        }

        private void readPerson() {
            beginLine(board.people, MOST_PEOPLE);
            int goods = readNumber(99);
            int place = readOne(board.land.places, 0);
            if (fault == 0) {
                board.addPerson(goods, place);
            }
        }

        private void readKin() {
            beginLine(board.kins, MOST_KIN);
            int first = readOne(board.people, 0);
            int second = readOne(board.people, bit(first) | at(board.kin, first));
            if (fault == 0) {
                board.addKin(first, second);
            }
        }

        private void readTie(boolean isFriend) {
            beginLine(board.ties, MOST_TIES);
            int master = readOne(board.masters, 0);
            int person = readOne(board.people, board.tied(master));
            if (fault == 0) {
                board.addTie(master, person, isFriend);
            }
        }

        private void readRule() {
            if (board.rule.isTold()) {
                fail(SECOND_RULE);
                return;
            }
            tokens.step();
            readExpr(0);
        }

        private boolean isWord(Word word) {
            return fault == 0 && tokens.word() == word;
        }

        private boolean isSign(int sign) {
            return fault == 0 && tokens.isSignNow(sign);
        }

        private void readExpr(int within) {
            if (within >= MOST_WITHIN) {
                boolean canStand = tokens.kind == Tokens.NUMBER || tokens.kind == Tokens.WORD;
                fail(canStand || tokens.isSignNow('(') ? TOO_MUCH : MISPLACED);
                return;
            }
            readAnd(within);
            for (int i = 0; i < Tokens.MOST && isWord(Word.OR); i++) {
                tokens.step();
                readAnd(within);
                board.rule.add(Rule.OR);
            }
        }

        private void readAnd(int within) {
            readNot(within);
            for (int i = 0; i < Tokens.MOST && isWord(Word.AND); i++) {
                tokens.step();
                readNot(within);
                board.rule.add(Rule.AND);
            }
        }

        private void readNot(int within) {
            int nots = 0;
            for (int i = 0; i < MOST_NOTS && isWord(Word.NOT); i++) {
                tokens.step();
                nots++;
            }
            if (isWord(Word.NOT)) {
                fail(TOO_MUCH);
                return;
            }
            readTest(within);
            for (int i = 0; i < nots; i++) {
                board.rule.add(Rule.NOT);
            }
        }

        private void readTest(int within) {
            readSum(within);
            if (isSign('<') || isSign('=')) {
                int code = isSign('<') ? Rule.LESS : Rule.SAME;
                tokens.step();
                readSum(within);
                board.rule.add(code);
            }
        }

        private void readSum(int within) {
            readProduct(within);
            for (int i = 0; i < Tokens.MOST && (isSign('+') || isSign('-')); i++) {
                int code = isSign('+') ? Rule.PLUS : Rule.MINUS;
                tokens.step();
                readProduct(within);
                board.rule.add(code);
            }
        }

        private void readProduct(int within) {
            readPart(within);
            for (int i = 0; i < Tokens.MOST && (isSign('*') || isSign('/')); i++) {
                int code = isSign('*') ? Rule.TIMES : Rule.OVER;
                tokens.step();
                readPart(within);
                board.rule.add(code);
            }
        }

        private void readPart(int within) {
            if (fault != 0) {
                return;
            }
            if (tokens.kind == Tokens.WORD) {
                readValue();
            } else if (tokens.kind == Tokens.NUMBER) {
                readConstant();
            } else if (tokens.isSignNow('(')) {
                tokens.step();
                readExpr(within + 1);
                expectSign(')');
            } else {
                fail(MISPLACED);
            }
        }

        private void readConstant() {
            if (tokens.value == NONE) {
                fail(TOO_MUCH);
                return;
            }
            board.rule.add(tokens.value);
            tokens.step();
        }

        private void readValue() {
            Word word = tokens.word();
            if (word == null || word.value == 0) {
                fail(UNTOLD);
                return;
            }
            board.rule.add(word.value);
            tokens.step();
        }
    }

    /** All that MORNINGS and other ACTS change. */
    private static final class Moment {
        int day;
        int list;
        int dead;
        int sales;
        boolean isOpen = true;
        /** The DAY on which a name was written, and by whom; NONE for who isn't on THE LIST. */
        final int[] since = new int[MOST_PEOPLE];
        final int[] writer = new int[MOST_PEOPLE];
        final int[] where = new int[MOST_PEOPLE];
        final int[] debt = new int[MOST_MASTERS];

        void begin(Board board) {
            day = 0;
            list = 0;
            dead = 0;
            sales = 0;
            isOpen = true;
            fill(since, NONE);
            fill(writer, NONE);
            copyRow(board.home, where);
            copyRow(board.debt, debt);
        }

        void copy(Moment other) {
            day = other.day;
            list = other.list;
            dead = other.dead;
            sales = other.sales;
            isOpen = other.isOpen;
            copyRow(other.since, since);
            copyRow(other.writer, writer);
            copyRow(other.where, where);
            copyRow(other.debt, debt);
        }

        int peopleAt(Board board, int place) {
            int there = 0;
            for (int p = 0; p < board.people; p++) {
                there |= at(where, p) == place ? bit(p) : 0;
            }
            return there;
        }

        int away(Board board) {
            int away = 0;
            for (int p = 0; p < board.people; p++) {
                away |= board.land.isSea(at(where, p)) ? bit(p) : 0;
            }
            return away;
        }

        /** DEAD or AWAY. */
        boolean isGone(Board board, int person) {
            return has(dead, person) || board.land.isSea(at(where, person));
        }

        int hunted(Board board) {
            return list & ~dead & ~away(board);
        }

        int writtenBy(int master) {
            int names = 0;
            for (int p = 0; p < MOST_PEOPLE; p++) {
                names |= at(writer, p) == master ? bit(p) : 0;
            }
            return names;
        }

        void enter(int person, int by) {
            list |= bit(person);
            put(since, person, day);
            put(writer, person, by);
        }

        void erase(int person) {
            list &= ~bit(person);
            put(since, person, NONE);
            put(writer, person, NONE);
        }

        /** What WRITES gives now. */
        int spite(Board board, int master, int person) {
            Rule rule = board.rule;
            if (!rule.isTold()) {
                return at(board.goods, person);
            }
            rule.setFact(Rule.GOODS, at(board.goods, person));
            rule.setFact(Rule.DEBT, at(debt, master));
            rule.setFact(Rule.FOE, has(at(board.foes, master), person) ? 1 : 0);
            rule.setFact(Rule.FRIEND, has(at(board.friends, master), person) ? 1 : 0);
            rule.setFact(Rule.KIN, Integer.bitCount(at(board.kin, person) & list));
            rule.setFact(Rule.LISTED, Integer.bitCount(list));
            rule.setFact(Rule.DAY, day);
            rule.setFact(Rule.SALES, sales);
            return rule.value();
        }

        /** What a SALE of this one's GOODS would bring now. */
        int price(Board board, int person) {
            return at(board.goods, person) * (10 - Math.min(sales, 9)) / 10;
        }

        /** The one is found, and the GOODS are sold; answers what they bring. */
        int sell(Board board, int person) {
            int brings = price(board, person);
            int by = at(writer, person);
            dead |= bit(person);
            sales++;
            put(debt, by, Math.max(0, at(debt, by) - brings));
            return brings;
        }

        int debts(Board board) {
            int sum = 0;
            for (int m = 0; m < board.masters; m++) {
                sum += at(debt, m);
            }
            return sum;
        }
    }

    /** All that an image keeps: the moment, the moments ahead of the latest ACTS in a ring, what is SEEN. */
    private static final class Story {
        final Moment now = new Moment();
        private final Moment[] kept = new Moment[MOST_ACTS];
        private int oldest;
        int acts;
        int seen;
        private final int[] seenWho = new int[MOST_SEEN];
        private final int[] seenAfter = new int[MOST_SEEN];
        private final int[] seenListed = new int[MOST_SEEN];

        Story() {
            for (int i = 0; i < kept.length; i++) {
                kept[i] = new Moment();
            }
        }

        void begin(Board board) {
            now.begin(board);
            acts = 0;
            seen = 0;
        }

        void copy(Story other) {
            now.copy(other.now);
            acts = other.acts;
            for (int i = 0; i < acts; i++) {
                slot(i).copy(other.slot(i));
            }
            seen = other.seen;
            copyRow(other.seenWho, seenWho);
            copyRow(other.seenAfter, seenAfter);
            copyRow(other.seenListed, seenListed);
        }

        private Moment slot(int i) {
            return kept[Math.floorMod(oldest + i, MOST_ACTS)];
        }

        /** To be called ahead of an ACT; the oldest one is lost, if there are too many. */
        void keepAct() {
            if (acts == MOST_ACTS) {
                oldest = Math.floorMod(oldest + 1, MOST_ACTS);
                acts--;
            }
            slot(acts).copy(now);
            acts++;
        }

        void takeBack() {
            if (acts > 0) {
                acts--;
                now.copy(slot(acts));
            }
        }

        void addSeen(int person, int after, boolean isListed) {
            put(seenWho, seen, person);
            put(seenAfter, seen, after);
            put(seenListed, seen, isListed ? 1 : 0);
            seen++;
        }

        /** Whether in a forecast all that is SEEN is so. */
        boolean isSeenIn(Forecast forecast) {
            for (int i = 0; i < seen; i++) {
                int isListed = has(forecast.listBehind(at(seenAfter, i)), at(seenWho, i)) ? 1 : 0;
                if (isListed != at(seenListed, i)) {
                    return false;
                }
            }
            return true;
        }
    }

    /** Lets MORNINGS go by on a moment of its own, and keeps what happens in them. */
    private static final class Forecast {
        final Moment then = new Moment();
        private Board board;
        /** What is otherwise than told: one whom nobody writes, a closing, a name put in by the scribe. */
        int passedOver;
        int closedAfter;
        int scribesName;
        int scribesMorning;

        boolean didScribeWrite;
        int mornings;
        int idleDay;
        private int names;
        private final int[] name = new int[MOST_PEOPLE];
        final int[] foundOn = new int[MOST_PEOPLE];
        final int[] brought = new int[MOST_MASTERS];
        final int[] foundIn = new int[AHEAD];
        private final int[] lists = new int[AHEAD];

        Forecast(Board first) {
            board = first;
        }

        void begin(Board itsBoard, Moment from) {
            board = itsBoard;
            then.copy(from);
            passedOver = NONE;
            closedAfter = NONE;
            scribesName = NONE;
            scribesMorning = NONE;
            didScribeWrite = false;
            mornings = 0;
            idleDay = NONE;
            names = 0;
            fill(foundOn, NONE);
            fill(brought, 0);
        }

        void run(int many) {
            for (int i = 0; i < many && then.day < LAST_DAY; i++) {
                morning();
            }
        }

        private void morning() {
            comeBetween();
            int before = names;
            for (int m = 0; m < board.masters && then.isOpen; m++) {
                letWrite(m);
            }
            if (names == before && idleDay == NONE) {
                idleDay = then.day;
            }
            put(foundIn, mornings, search());
            put(lists, mornings, then.list);
            mornings++;
            then.day++;
        }

        /** What is to happen ahead of this MORNING. */
        private void comeBetween() {
            if (closedAfter == mornings) {
                then.isOpen = false;
            }
            if (scribesMorning == mornings && !has(then.list, scribesName)) {
                then.enter(scribesName, SCRIBE);
                didScribeWrite = true;
            }
        }

        private void letWrite(int master) {
            int chosen = NONE;
            int most = 0;
            for (int p = 0; p < board.people; p++) {
                if (!has(then.list, p) && p != passedOver) {
                    int spite = then.spite(board, master, p);
                    if (spite > most) {
                        most = spite;
                        chosen = p;
                    }
                }
            }
            if (chosen != NONE) {
                then.enter(chosen, master);
                put(name, names, chosen);
                names++;
            }
        }

        /** Answers how many are found. */
        private int search() {
            int found = 0;
            for (int p = 0; p < board.people; p++) {
                boolean isFound = board.land.betrays(at(then.where, p), at(then.since, p), then.day);
                if (isFound && !has(then.dead, p)) {
                    int by = at(then.writer, p);
                    put(brought, by, at(brought, by) + then.sell(board, p));
                    put(foundOn, p, then.day);
                    found++;
                }
            }
            return found;
        }

        /** The i-th name written; NONE, if there are not so many. */
        int name(int i) {
            return i < names ? at(name, i) : NONE;
        }

        int orderOf(int person) {
            for (int i = 0; i < names; i++) {
                if (at(name, i) == person) {
                    return i;
                }
            }
            return NONE;
        }

        /** THE LIST at the end of a MORNING, or behind the last one, if there was no such MORNING. */
        int listBehind(int morning) {
            return morning < mornings ? at(lists, morning) : then.list;
        }
    }

    /** The PEOPLE and DAYS by which the scribe would make all that is SEEN so. */
    private static final class Inquiry {
        int pairs;
        int first;
        int mornings;
        /** THE LISTS of a pair, MORNING by MORNING, stand behind those of the pair ahead of it. */
        private final int[] lists = new int[MOST_PAIRS * AHEAD];

        void weigh(Board board, Story story, Forecast forecast) {
            pairs = 0;
            first = NONE;
            mornings = Math.min(AHEAD, LAST_DAY - story.now.day);
            for (int p = 0; p < board.people; p++) {
                for (int after = 0; after < SCRIBE_DAYS; after++) {
                    forecast.begin(board, story.now);
                    forecast.scribesName = p;
                    forecast.scribesMorning = after;
                    forecast.run(AHEAD);
                    if (forecast.didScribeWrite && story.isSeenIn(forecast)) {
                        keep(100 * p + after, forecast);
                    }
                }
            }
        }

        private void keep(int pair, Forecast forecast) {
            if (first == NONE) {
                first = pair;
            }
            for (int i = 0; i < mornings; i++) {
                put(lists, pairs * AHEAD + i, forecast.listBehind(i));
            }
            pairs++;
        }

        /** How many of THE LISTS at the end of a MORNING differ from all ahead of them. */
        int unlikeLists(int morning) {
            int unlike = 0;
            for (int i = 0; i < pairs; i++) {
                boolean isNew = true;
                for (int j = 0; j < i && isNew; j++) {
                    isNew = at(lists, i * AHEAD + morning) != at(lists, j * AHEAD + morning);
                }
                unlike += isNew ? 1 : 0;
            }
            return unlike;
        }
    }

    /** LISTS by a seed. */
    private static final class Lottery {
        final Moment then = new Moment();
        int worthless;
        private int seed;

        void play(Board board, Moment from, int itsSeed, int mornings) {
            then.copy(from);
            seed = itsSeed;
            worthless = 0;
            if (board.masters == 0 || board.people == 0) {
                return;
            }
            for (int i = 0; i < mornings; i++) {
                drawName(board);
                drawFound(board);
            }
        }

        private int draw(int n) {
            seed = seed * 1103515245 + 12345;
            return n > 0 ? ((seed >> 16) & 32767) % n : 0;
        }

        private void drawName(Board board) {
            int master = draw(board.masters);
            int person = draw(board.people);
            if (then.isOpen && !has(then.list, person)) {
                then.enter(person, master);
            }
        }

        private void drawFound(Board board) {
            int hunted = then.hunted(board);
            for (int p = 0; p < board.people; p++) {
                if (has(hunted, p) && draw(10) < at(board.land.danger, at(then.where, p))) {
                    worthless += then.sell(board, p) == 0 ? 1 : 0;
                }
            }
        }
    }
}
