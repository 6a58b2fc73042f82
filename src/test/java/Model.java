import java.util.ArrayDeque;
import java.util.ArrayList;
import java.util.Arrays;
import java.util.HashSet;
import java.util.LinkedHashMap;
import java.util.List;
import java.util.Map;
import java.util.NoSuchElementException;
import java.util.Set;
import java.util.function.Consumer;

/** The document once more, in the slowest and plainest way, to be compared with the class. */
public final class Model {
    private final StringBuilder tape = new StringBuilder();
    private int faultPlace = -1;
    private final int[] status = new int[3];
    private ModelText text = new ModelText("");
    private World now = new World(text);
    private ArrayDeque<World> acts = new ArrayDeque<>();
    private List<int[]> seen = new ArrayList<>();
    private World imageWorld;
    private ArrayDeque<World> imageActs;
    private List<int[]> imageSeen;

    /** A name on the list. */
    private static final class Name {
        final int day;
        final int by;

        Name(int day, int by) {
            this.day = day;
            this.by = by;
        }
    }

    /** What acts change, and what happened on the way. */
    private static final class World {
        final ModelText text;
        int day;
        Map<Integer, Name> list = new LinkedHashMap<>();
        Map<Integer, Integer> dead = new LinkedHashMap<>();
        List<Integer> places = new ArrayList<>();
        List<Integer> debts = new ArrayList<>();
        List<int[]> sales = new ArrayList<>();
        boolean open = true;
        Integer never;
        final List<Integer> written = new ArrayList<>();
        final List<Integer> ends = new ArrayList<>();

        World(ModelText text) {
            this.text = text;
            for (int[] person : text.people) {
                places.add(person[1]);
            }
            debts.addAll(text.debts);
        }

        World copy() {
            World w = new World(text);
            w.day = day;
            w.list = new LinkedHashMap<>(list);
            w.dead = new LinkedHashMap<>(dead);
            w.places = new ArrayList<>(places);
            w.debts = new ArrayList<>(debts);
            w.sales = new ArrayList<>(sales);
            w.open = open;
            return w;
        }

        boolean away(int p) {
            return text.isSea(places.get(p));
        }

        int rule(int m, int p) {
            if (text.rule == null) {
                return text.people.get(p)[0];
            }
            Map<String, Integer> values = new LinkedHashMap<>();
            values.put("goods", text.people.get(p)[0]);
            values.put("debt", debts.get(m));
            values.put("foe", text.tie(m, p) == 0 ? 1 : 0);
            values.put("friend", text.tie(m, p) == 1 ? 1 : 0);
            int kin = 0;
            for (int q = 0; q < text.people.size(); q++) {
                kin += text.areKin(p, q) && list.containsKey(q) ? 1 : 0;
            }
            values.put("kin", kin);
            values.put("listed", list.size());
            values.put("day", day);
            values.put("sales", sales.size());
            return ModelText.value(text.rule, values);
        }

        int price(int p) {
            return text.people.get(p)[0] * (10 - Math.min(9, sales.size())) / 10;
        }

        void sale(int p) {
            int brings = price(p);
            int by = list.get(p).by;
            if (by >= 0) {
                debts.set(by, Math.max(0, debts.get(by) - brings));
            }
            dead.put(p, day);
            sales.add(new int[] {p, by, brings});
        }

        void morning() {
            for (int m = 0; open && m < debts.size(); m++) {
                int best = -1;
                for (int p = 0; p < places.size(); p++) {
                    if (list.containsKey(p) || Integer.valueOf(p).equals(never) || rule(m, p) <= 0) {
                        continue;
                    }
                    if (best < 0 || rule(m, p) > rule(m, best)) {
                        best = p;
                    }
                }
                if (best >= 0) {
                    list.put(best, new Name(day, m));
                    written.add(best);
                }
            }
            for (int p = 0; p < places.size(); p++) {
                if (list.containsKey(p) && !dead.containsKey(p) && !away(p)
                        && text.dangers.get(places.get(p)) + day - list.get(p).day >= 10) {
                    sale(p);
                }
            }
            day++;
            ends.add(bits(list.keySet()));
        }
    }

    private static int bits(Iterable<Integer> these) {
        int bits = 0;
        for (int i : these) {
            bits |= 1 << i;
        }
        return bits;
    }

    /** Thirty mornings, or to the last day; ahead of each one the change is asked. */
    private World ahead(int mornings, Consumer<World> change) {
        World w = now.copy();
        while (w.day < 60 && w.day < now.day + mornings) {
            change.accept(w);
            w.morning();
        }
        return w;
    }

    private World ahead() {
        return ahead(30, w -> { });
    }

    private void master(int m) {
        if (m < 0 || m >= text.debts.size()) {
            throw new NoSuchElementException();
        }
    }

    private void place(int p) {
        if (p < 0 || p >= text.dangers.size()) {
            throw new NoSuchElementException();
        }
    }

    private void person(int p) {
        if (p < 0 || p >= text.people.size()) {
            throw new NoSuchElementException();
        }
    }

    private static void what(int what, int kinds) {
        if (what < 0 || what >= kinds) {
            throw new NoSuchElementException();
        }
    }

    private static void range(int x, int least, int most) {
        if (x < least || x > most) {
            throw new IllegalArgumentException();
        }
    }

    public int feed(int a, int b, int c, int d, int e) {
        if (tape.length() > 680) {
            return -1;
        }
        for (int x : new int[] {a, b, c, d, e}) {
            for (int k = 3; k >= 0; k--) {
                tape.append((char) (x >>> 8 * k & 255));
            }
        }
        return tape.length();
    }

    public int board(int n) {
        range(n, 0, tape.length());
        ModelText told = new ModelText(tape.substring(0, n));
        tape.setLength(0);
        faultPlace = told.place;
        if (told.fault != 0) {
            status[0]++;
            return told.fault;
        }
        text = told;
        now = new World(told);
        acts.clear();
        seen.clear();
        imageWorld = null;
        return 0;
    }

    public int fault() {
        return faultPlace;
    }

    public int count(int what) {
        what(what, 17);
        List<Integer> away = new ArrayList<>();
        Set<Integer> barred = new HashSet<>();
        for (int p = 0; p < text.people.size(); p++) {
            if (now.away(p)) {
                away.add(p);
            }
            for (int q : now.list.keySet()) {
                if (!now.list.containsKey(p) && steps(p, q) > 0) {
                    barred.add(p);
                }
            }
        }
        int[] all = {text.debts.size(), text.dangers.size(), text.ways.size(), text.people.size(), now.day,
            bits(now.list.keySet()), bits(now.dead.keySet()), bits(away), now.sales.size(), now.open ? 1 : 0,
            bits(barred), acts.size(), seen.size(), tape.length(), status[0], status[1], status[2]};
        return all[what];
    }

    public int master(int master, int what) {
        master(master);
        what(what, 4);
        int[] ties = new int[2];
        int his = 0;
        for (int p = 0; p < text.people.size(); p++) {
            if (text.tie(master, p) >= 0) {
                ties[text.tie(master, p)] |= 1 << p;
            }
            if (now.list.containsKey(p) && now.list.get(p).by == master) {
                his |= 1 << p;
            }
        }
        return new int[] {now.debts.get(master), ties[1], ties[0], his}[what];
    }

    public int place(int place, int what) {
        place(place);
        what(what, 3);
        int there = 0;
        for (int p = 0; p < text.people.size(); p++) {
            there += now.places.get(p) == place ? 1 << p : 0;
        }
        int ways = 0;
        for (int[] way : text.ways) {
            ways += way[0] == place || way[1] == place ? 1 : 0;
        }
        return new int[] {text.dangers.get(place), there, ways}[what];
    }

    public int person(int person, int what) {
        person(person);
        what(what, 6);
        int kin = 0;
        for (int q = 0; q < text.people.size(); q++) {
            kin += text.areKin(person, q) ? 1 << q : 0;
        }
        Name name = now.list.get(person);
        return new int[] {text.people.get(person)[0], now.places.get(person), kin,
            name == null ? -1 : name.day, name == null ? -1 : name.by, now.price(person)}[what];
    }

    public int grudge(int master, int person) {
        master(master);
        person(person);
        return now.rule(master, person);
    }

    private int refused(int which, int answer) {
        status[which]++;
        return answer;
    }

    private void act() {
        acts.addLast(now.copy());
        if (acts.size() > 40) {
            acts.removeFirst();
        }
    }

    public int mornings(int many) {
        if (many < 1 || many > 20 || many > 60 - now.day) {
            return refused(1, -1);
        }
        act();
        for (int i = 0; i < many; i++) {
            now.morning();
        }
        return now.day;
    }

    public int go(int person, int way) {
        person(person);
        if (way < 0 || way >= text.ways.size()) {
            throw new NoSuchElementException();
        }
        int[] w = text.ways.get(way);
        int here = now.places.get(person);
        if (now.dead.containsKey(person) || now.away(person) || here != w[0] && here != w[1] || now.day >= w[2]) {
            return refused(1, -1);
        }
        act();
        now.places.set(person, here == w[0] ? w[1] : w[0]);
        return now.places.get(person);
    }

    public boolean write(int person) {
        person(person);
        if (now.list.containsKey(person)) {
            return refused(1, 0) == 1;
        }
        act();
        now.list.put(person, new Name(now.day, -2));
        return true;
    }

    public int strike(int person) {
        person(person);
        if (!now.list.containsKey(person) || now.dead.containsKey(person)) {
            return refused(1, -1);
        }
        act();
        return now.list.remove(person).by;
    }

    public boolean open(boolean is) {
        if (now.open == is) {
            return refused(1, 0) == 1;
        }
        act();
        now.open = is;
        return true;
    }

    public int undo() {
        if (acts.isEmpty()) {
            return -1;
        }
        now = acts.removeLast().copy();
        return acts.size();
    }

    public int when(int person, int what) {
        person(person);
        what(what, 2);
        Name name = ahead().list.get(person);
        return name == null ? -1 : what == 0 ? name.day : name.by;
    }

    public int found(int person) {
        person(person);
        return now.dead.containsKey(person) ? -1 : ahead().dead.getOrDefault(person, -1);
    }

    public int next(int i) {
        range(i, 0, Integer.MAX_VALUE);
        List<Integer> written = ahead().written;
        return i < written.size() ? written.get(i) : -1;
    }

    public int owes(int master, int mornings) {
        master(master);
        range(mornings, 0, 30);
        return ahead(mornings, w -> { }).debts.get(master);
    }

    public int instead(int person) {
        person(person);
        if (now.list.containsKey(person)) {
            return -1;
        }
        List<Integer> before = ahead().written;
        List<Integer> then = ahead(30, w -> w.never = person).written;
        for (int i = 0; i < then.size(); i++) {
            if (i >= before.size() || !before.get(i).equals(then.get(i))) {
                return then.get(i);
            }
        }
        return -1;
    }

    /** All walks, one after another, the places behind a morning kept once. */
    private int out(int person, int neverShut) {
        int written = when(person, 0);
        Set<Integer> here = new HashSet<>();
        here.add(now.places.get(person));
        for (int day = now.day; day <= Math.min(60, now.day + 30); day++) {
            Set<Integer> then = new HashSet<>(here);
            for (int place : here) {
                for (int w = 0; w < text.ways.size(); w++) {
                    int[] way = text.ways.get(w);
                    if (day < way[2] || w == neverShut) {
                        if (way[0] == place) {
                            then.add(way[1]);
                        }
                        if (way[1] == place) {
                            then.add(way[0]);
                        }
                    }
                }
            }
            here = new HashSet<>();
            for (int place : then) {
                if (text.isSea(place)) {
                    return day;
                }
                if (written < 0 || written > day || text.dangers.get(place) + day - written < 10) {
                    here.add(place);
                }
            }
        }
        return -1;
    }

    public int out(int person) {
        person(person);
        return now.dead.containsKey(person) ? -1 : out(person, -1);
    }

    public int gate(int person) {
        person(person);
        if (now.dead.containsKey(person) || out(person, -1) >= 0) {
            return -1;
        }
        for (int w = 0; w < text.ways.size(); w++) {
            if (out(person, w) >= 0) {
                return w;
            }
        }
        return -1;
    }

    private int chance(int written, int place, int day, int days, Map<List<Integer>, Integer> known) {
        if (days == 0) {
            return 1;
        }
        List<Integer> key = Arrays.asList(place, day);
        if (!known.containsKey(key)) {
            int best = 0;
            for (int w = -1; w < text.ways.size(); w++) {
                int there = place;
                if (w >= 0) {
                    int[] way = text.ways.get(w);
                    if (text.isSea(place) || day >= way[2] || way[0] != place && way[1] != place) {
                        continue;
                    }
                    there = way[0] + way[1] - place;
                }
                boolean safe = text.isSea(there) || written < 0 || written > day;
                int tenths = safe ? 10 : 10 - text.dangers.get(there);
                best = Math.max(best, tenths * chance(written, there, day + 1, days - 1, known));
            }
            known.put(key, best);
        }
        return known.get(key);
    }

    public int surest(int person, int days) {
        person(person);
        range(days, 1, 9);
        if (now.dead.containsKey(person)) {
            return 0;
        }
        return chance(when(person, 0), now.places.get(person), now.day, days, new LinkedHashMap<>());
    }

    private World closedOn(int day) {
        return ahead(30, w -> w.open = w.open && w.day < day);
    }

    public int close(int dead) {
        range(dead, 0, 9);
        int latest = -1;
        for (int day = now.day; day <= 60 && day <= now.day + 30; day++) {
            if (closedOn(day).dead.size() <= dead) {
                latest = day;
            }
        }
        return latest;
    }

    public int spared() {
        Set<Integer> are = new HashSet<>(ahead().dead.keySet());
        are.removeAll(closedOn(now.day).dead.keySet());
        return bits(are);
    }

    public int see(int person, int i, boolean listed) {
        person(person);
        if (seen.size() == 8 || i < 0 || i > 29) {
            return refused(2, -1);
        }
        seen.add(new int[] {person, i, listed ? 1 : 0});
        return seen.size();
    }

    public void forget() {
        seen.clear();
    }

    private boolean isSo(World w) {
        for (int[] s : seen) {
            int list = s[1] < w.ends.size() ? w.ends.get(s[1]) : bits(w.list.keySet());
            if ((list >> s[0] & 1) != s[2]) {
                return false;
            }
        }
        return true;
    }

    private Map<Integer, World> pairs() {
        Map<Integer, World> pairs = new LinkedHashMap<>();
        for (int p = 0; p < text.people.size(); p++) {
            for (int d = 0; d < 10; d++) {
                int who = p;
                int day = now.day + d;
                boolean[] did = new boolean[1];
                World w = ahead(30, x -> {
                    if (x.day == day && !x.list.containsKey(who)) {
                        x.list.put(who, new Name(day, -2));
                        did[0] = true;
                    }
                });
                if (did[0] && isSo(w)) {
                    pairs.put(100 * p + d, w);
                }
            }
        }
        return pairs;
    }

    public int scribe(int what) {
        what(what, 3);
        if (what == 2) {
            return isSo(ahead()) ? 1 : 0;
        }
        Map<Integer, World> pairs = pairs();
        return what == 0 ? pairs.size() : pairs.isEmpty() ? -1 : pairs.keySet().iterator().next();
    }

    public int tells(int what) {
        what(what, 2);
        int best = -1;
        int most = 0;
        Map<Integer, World> pairs = pairs();
        for (int i = 0; i < 30 && now.day + i < 60; i++) {
            Set<Integer> lists = new HashSet<>();
            for (World w : pairs.values()) {
                lists.add(w.ends.get(i));
            }
            if (lists.size() > most) {
                most = lists.size();
                best = i;
            }
        }
        return what == 0 ? best : most;
    }

    private int bestRoll(List<Integer> left, int sum, int taken) {
        if (left.isEmpty()) {
            return sum == 0 ? taken : -1;
        }
        List<Integer> rest = left.subList(1, left.size());
        int without = bestRoll(rest, sum, taken);
        int with = bestRoll(rest, sum - text.people.get(left.get(0))[0], taken | 1 << left.get(0));
        if (without < 0 || with < 0) {
            return Math.max(without, with);
        }
        int fewer = Integer.bitCount(without) - Integer.bitCount(with);
        return fewer < 0 || fewer == 0 && without < with ? without : with;
    }

    public int roll(int sum) {
        range(sum, 0, 999);
        return bestRoll(new ArrayList<>(now.dead.keySet()), sum, 0);
    }

    private int friend(int master) {
        for (int[] tie : text.ties) {
            if (tie[0] == master && tie[2] == 1 && !now.list.containsKey(tie[1])) {
                return tie[1];
            }
        }
        return -1;
    }

    private int gain(int master, int other, int his, int others) {
        int gain = 0;
        if (his == 1) {
            gain -= 3;
        }
        if (others == 1 && text.tie(master, friend(other)) == 0) {
            gain += 5;
        }
        return his == 0 && others == 0 ? gain - 1 : gain;
    }

    private boolean rests(int master, int other, int his, int others) {
        if (friend(master) < 0) {
            return his == 0;
        }
        return gain(master, other, his, others) >= gain(master, other, his ^ 1, others);
    }

    public int bargain(int master, int other, int what) {
        master(master);
        master(other);
        what(what, 2);
        if (master == other) {
            throw new IllegalArgumentException();
        }
        List<Integer> resting = new ArrayList<>();
        for (int x = 0; x < 2; x++) {
            for (int y = 0; y < 2; y++) {
                if (rests(master, other, x, y) && rests(other, master, y, x)) {
                    resting.add(10 * x + y);
                }
            }
        }
        return what == 0 ? resting.size() : resting.isEmpty() ? -1 : resting.get(0);
    }

    public int lists(int seed, int n, int what) {
        what(what, 3);
        range(n, 0, 60);
        World w = now.copy();
        int salesAhead = w.sales.size();
        int[] s = {seed};
        for (int i = 0; i < n && w.debts.size() > 0 && w.places.size() > 0; i++) {
            int m = draw(s, w.debts.size());
            int p = draw(s, w.places.size());
            if (w.open && !w.list.containsKey(p)) {
                w.list.put(p, new Name(0, m));
            }
            for (int q = 0; q < w.places.size(); q++) {
                if (w.list.containsKey(q) && !w.dead.containsKey(q) && !w.away(q)
                        && draw(s, 10) < text.dangers.get(w.places.get(q))) {
                    w.sale(q);
                }
            }
        }
        int nothing = 0;
        for (int[] sale : w.sales.subList(salesAhead, w.sales.size())) {
            nothing += sale[2] == 0 ? 1 : 0;
        }
        return new int[] {w.dead.size(), w.debts.stream().mapToInt(d -> d).sum(), nothing}[what];
    }

    private static int draw(int[] seed, int n) {
        seed[0] = seed[0] * 1103515245 + 12345;
        return (seed[0] << 1 >>> 17) % n;
    }

    private static int fewest(int from, int to, List<int[]> couples) {
        Set<Integer> reached = new HashSet<>(List.of(from));
        for (int k = 0; k < 20; k++) {
            if (reached.contains(to)) {
                return k;
            }
            Set<Integer> more = new HashSet<>(reached);
            for (int[] c : couples) {
                if (reached.contains(c[0]) || reached.contains(c[1])) {
                    more.add(c[0]);
                    more.add(c[1]);
                }
            }
            reached = more;
        }
        return -1;
    }

    public int far(int place, int other) {
        place(place);
        place(other);
        return fewest(place, other, text.ways);
    }

    public int steps(int person, int other) {
        person(person);
        person(other);
        return fewest(person, other, text.kin);
    }

    public int refuge(int person) {
        person(person);
        int here = now.places.get(person);
        List<int[]> open = new ArrayList<>();
        int best = here;
        for (int place = 0; place < text.dangers.size(); place++) {
            open.clear();
            for (int[] way : text.ways) {
                // Only the place asked for may be a sea on the way there.
                boolean stops = text.isSea(way[0]) && way[0] != place || text.isSea(way[1]) && way[1] != place;
                if (now.day < way[2] && !stops) {
                    open.add(way);
                }
            }
            boolean comes = place == here || !now.away(person) && fewest(here, place, open) >= 0;
            int less = text.dangers.get(place) - text.dangers.get(best);
            if (comes && (less < 0 || less == 0 && place < best)) {
                best = place;
            }
        }
        return best;
    }

    public int richest() {
        World w = ahead();
        int[] sums = new int[3];
        for (int[] sale : w.sales.subList(now.sales.size(), w.sales.size())) {
            if (sale[1] >= 0) {
                sums[sale[1]] += sale[2];
            }
        }
        int best = 0;
        for (int m = 1; m < 3; m++) {
            best = sums[m] > sums[best] ? m : best;
        }
        return sums[best] > 0 ? best : -1;
    }

    public int worst(int what) {
        what(what, 2);
        World w = ahead();
        int[] found = new int[60];
        for (Map.Entry<Integer, Integer> one : w.dead.entrySet()) {
            found[one.getValue()] += now.dead.containsKey(one.getKey()) ? 0 : 1;
        }
        int best = 0;
        for (int day = 1; day < 60; day++) {
            best = found[day] > found[best] ? day : best;
        }
        return what == 1 ? found[best] : found[best] == 0 ? -1 : best;
    }

    public int idle() {
        int[] idle = {-1};
        int[] last = {-1, 0};
        World end = ahead(30, w -> {
            if (idle[0] < 0 && last[0] >= 0 && w.written.size() == last[1]) {
                idle[0] = last[0];
            }
            last[0] = w.day;
            last[1] = w.written.size();
        });
        if (idle[0] < 0 && last[0] >= 0 && end.written.size() == last[1]) {
            idle[0] = last[0];
        }
        return idle[0];
    }

    public int stay(int person, int place) {
        person(person);
        place(place);
        int written = when(person, 0);
        for (int day = now.day; day < 60 && day < now.day + 30; day++) {
            if (!now.dead.containsKey(person) && !text.isSea(place) && written >= 0 && day >= written
                    && text.dangers.get(place) + (day - written) >= 10) {
                return day;
            }
        }
        return -1;
    }

    public int sought() {
        int sought = 0;
        for (int p : now.list.keySet()) {
            sought |= now.dead.containsKey(p) || now.away(p) ? 0 : 1 << p;
        }
        return sought;
    }

    public void image() {
        imageWorld = now.copy();
        imageActs = new ArrayDeque<>(acts);
        imageSeen = new ArrayList<>(seen);
    }

    public boolean restore() {
        if (imageWorld == null) {
            return false;
        }
        now = imageWorld.copy();
        acts = new ArrayDeque<>(imageActs);
        seen = new ArrayList<>(imageSeen);
        return true;
    }
}
