import java.lang.reflect.InvocationTargetException;
import java.lang.reflect.Method;
import java.lang.reflect.Modifier;
import java.util.ArrayList;
import java.util.Comparator;
import java.util.List;
import java.util.Random;

/** Runs of calls by fixed seeds, each answered by the class and by the model alike: every promise. */
public final class ModelTest {
    private static final String[] ACTS = {"mornings", "mornings", "go", "go", "write", "strike", "open", "undo",
        "see", "image"};
    private static final String[] WORDS = {"master", "place", "sea", "way", "person", "kin", "friend", "foe",
        "writes", "or", "and", "not", "goods", "debt", "listed", "day", "sales", "x", ";", "(", ")", "+", "-", "*",
        "/", "<", "=", "0", "1", "2", "7", "60", "99", "1000", "12345", "!", "A"};

    public static void main(String[] args) {
        for (int seed = 0; seed < 240; seed++) {
            run(seed);
        }
        for (int seed = 0; seed < 12000; seed++) {
            garbled(seed);
        }
        Check.end("ModelTest");
    }

    private static List<Method> questions() {
        List<Method> all = new ArrayList<>();
        for (Method method : WhiteBoard.class.getDeclaredMethods()) {
            boolean isText = method.getName().equals("feed") || method.getName().equals("board");
            if (Modifier.isPublic(method.getModifiers()) && !isText) {
                all.add(method);
            }
        }
        all.sort(Comparator.comparing(Method::getName));
        return all;
    }

    private static void run(int seed) {
        Random random = new Random(seed);
        WhiteBoard x = new WhiteBoard();
        Model model = new Model();
        StringBuilder told = new StringBuilder("seed " + seed + ": ");
        List<Method> questions = questions();
        tell(told, x, model, text(random));
        // Few runs come near the last day by themselves.
        boolean isLate = seed % 3 == 2;
        for (int call = 0; call < 300; call++) {
            if (random.nextInt(120) == 0) {
                tell(told, x, model, text(random));
            }
            if (isLate && x.count(4) == 0 && random.nextInt(3) == 0) {
                leap(told, x, model, random.nextInt(21));
            }
            Method method = questions.get(random.nextInt(questions.size()));
            boolean isBack = "restore undo forget".contains(method.getName()) && random.nextInt(4) != 0;
            if (isBack || random.nextInt(5) == 0) {
                String act = ACTS[random.nextInt(ACTS.length)];
                method = questions.stream().filter(m -> m.getName().equals(act)).findFirst().get();
            }
            if (!both(told, x, model, method, random)) {
                return;
            }
        }
    }

    private static void tell(StringBuilder told, WhiteBoard x, Model model, String text) {
        told.append("board \"").append(text).append("\" ");
        Check.feed(x, text);
        int n = text.length();
        for (int i = 0; i < text.length(); i += 20) {
            int[] five = new int[5];
            for (int k = 0; k < 20; k++) {
                five[k / 4] = five[k / 4] << 8 | (i + k < text.length() ? text.charAt(i + k) : ' ');
            }
            model.feed(five[0], five[1], five[2], five[3], five[4]);
        }
        Check.due(told.toString(), x.board(n), model.board(n));
        Check.due(told + "fault", x.fault(), model.fault());
        for (int what = 0; what < 17; what++) {
            Check.due(told + "count " + what, x.count(what), model.count(what));
        }
    }

    /** On to day 40, and so many mornings more. */
    private static void leap(StringBuilder told, WhiteBoard x, Model model, int more) {
        for (int many : new int[] {20, 20, more}) {
            told.append("mornings ").append(many).append("; ");
            Check.due(told.toString(), x.mornings(many), model.mornings(many));
        }
    }

    private static boolean both(StringBuilder told, WhiteBoard x, Model model, Method method, Random random) {
        Object[] with = new Object[method.getParameterCount()];
        told.append(method.getName());
        for (int i = 0; i < with.length; i++) {
            boolean isTruth = method.getParameterTypes()[i] == boolean.class;
            with[i] = isTruth ? (Object) random.nextBoolean() : (Object) argument(x, method.getName(), i, random);
            told.append(' ').append(with[i]);
        }
        told.append("; ");
        Object got = answer(x, method, with);
        Object due = answer(model, sameOf(method), with);
        boolean isSame = String.valueOf(got).equals(String.valueOf(due));
        Check.due(isSame ? "" : told + "got " + got + ", due " + due + "; same", isSame, true);
        return isSame;
    }

    private static Method sameOf(Method method) {
        try {
            return Model.class.getMethod(method.getName(), method.getParameterTypes());
        } catch (NoSuchMethodException e) {
            throw new IllegalStateException(e);
        }
    }

    private static Object answer(Object object, Method method, Object[] with) {
        try {
            return method.invoke(object, with);
        } catch (InvocationTargetException e) {
            return e.getCause().getClass().getName();
        } catch (IllegalAccessException e) {
            throw new IllegalStateException(e);
        }
    }

    /** Mostly one that there is, now and then one beside. */
    private static int argument(WhiteBoard x, String name, int i, Random random) {
        switch (name + i) {
            case "mornings0": return random.nextInt(5) == 0 ? random.nextInt(24) - 1 : 1 + random.nextInt(4);
            case "lists0": return random.nextInt();
            case "lists1": return beside(random, 61);
            case "roll0": return random.nextInt(4) == 0 ? random.nextInt(1003) - 1 : someGoods(x, random);
            case "owes1": return beside(random, 31);
            case "see1": return beside(random, 30);
            case "surest1": return beside(random, 11);
            case "close0": case "next0": return beside(random, 10);
            case "count0": return beside(random, 17);
            case "person1": return beside(random, 6);
            case "master1": return beside(random, 4);
            case "place1": case "lists2": case "scribe0": return beside(random, 3);
            case "tells0": case "worst0": case "when1": case "bargain2": return beside(random, 2);
            case "bargain0": case "bargain1": case "master0": case "owes0": case "grudge0":
                return beside(random, x.count(0));
            case "place0": case "far0": case "far1": case "stay1": return beside(random, x.count(1));
            case "go1": return beside(random, x.count(2));
            default: return beside(random, x.count(3));
        }
    }

    private static int beside(Random random, int many) {
        if (many == 0 || random.nextInt(30) == 0) {
            int[] wrong = {-1, many, Integer.MIN_VALUE, Integer.MAX_VALUE};
            return wrong[random.nextInt(wrong.length)];
        }
        return random.nextInt(many);
    }

    private static int someGoods(WhiteBoard x, Random random) {
        int sum = 0;
        int some = random.nextInt(512);
        for (int p = 0; p < x.count(3); p++) {
            sum += (x.count(6) & some & 1 << p) != 0 ? x.person(p, 0) : 0;
        }
        return sum;
    }

    /** A board without faults, small enough that all of it matters. */
    private static String text(Random random) {
        StringBuilder text = new StringBuilder();
        int masters = random.nextInt(10) == 0 ? 0 : 1 + random.nextInt(3);
        int places = random.nextInt(12) == 0 ? 0 : 1 + random.nextInt(8);
        int people = places == 0 ? 0 : random.nextInt(12) == 0 ? 0 : 1 + random.nextInt(random.nextBoolean() ? 4 : 9);
        lines(text, masters, () -> "master " + random.nextInt(random.nextBoolean() ? 1000 : 60));
        lines(text, places, () -> random.nextInt(5) == 0 ? "sea" : "place " + random.nextInt(10));
        couples(text, random, "way ", places, places, 12, true, () -> " " + random.nextInt(random.nextBoolean() ? 61 : 12));
        lines(text, people, () -> "person " + random.nextInt(random.nextInt(4) == 0 ? 3 : 100) + " " + random.nextInt(places));
        couples(text, random, "kin ", people, people, 9, true, () -> "");
        couples(text, random, "friend ", masters, people, random.nextInt(13), false, () -> "");
        if (random.nextInt(5) != 0) {
            String[] rules = {"goods", "goods*(1+foe)-friend*100", "(day/3=listed) and goods or foe and not friend",
                "50-debt+goods*kin", "goods*(kin=0)*(listed<4)", "not sales and goods<50 or day<9 and kin",
                "0-1", "goods/(day-3)+sales", "9999*9999*goods+debt", "day<20 and goods-listed*10"};
            String rule = random.nextBoolean() ? rules[random.nextInt(rules.length)] : expr(random, 0);
            text.append("writes ").append(rule).append(';');
        }
        return text.length() > 700 ? text(random) : text.toString();
    }

    private static void lines(StringBuilder text, int many, java.util.function.Supplier<String> line) {
        for (int i = 0; i < many; i++) {
            text.append(line.get()).append(";");
        }
    }

    private static void couples(StringBuilder text, Random random, String word, int a, int b, int most,
            boolean isMutual, java.util.function.Supplier<String> behind) {
        List<String> told = new ArrayList<>();
        for (int i = 0; i < 15 && a > 0 && b > 0 && told.size() < most; i++) {
            int first = random.nextInt(a);
            int second = random.nextInt(b);
            boolean isBad = isMutual && (first == second || told.contains(second + " " + first));
            if (!isBad && !told.contains(first + " " + second)) {
                told.add(first + " " + second);
                String begins = isMutual || random.nextBoolean() ? word : "foe ";
                text.append(begins).append(first).append(' ').append(second).append(behind.get()).append(';');
            }
        }
    }

    private static String expr(Random random, int depth) {
        String[] values = {"goods", "debt", "foe", "friend", "kin", "listed", "day", "sales", "0", "1", "7", "9999"};
        if (depth > 3 || random.nextInt(3) == 0) {
            return values[random.nextInt(values.length)];
        }
        String[] signs = {"+", "-", "*", "/", "<", "=", " or ", " and ", "not "};
        String sign = signs[random.nextInt(signs.length)];
        if (sign.equals("not ")) {
            return "(not " + expr(random, depth + 1) + ")";
        }
        String plain = expr(random, depth + 1) + sign + expr(random, depth + 1);
        boolean isBare = depth == 0 || "+-*/".contains(sign) && random.nextBoolean();
        return isBare ? plain.replaceAll("[<=]", "+") + (depth == 0 ? "<day+40" : "") : "(" + plain + ")";
    }

    /** Texts with a few tokens changed: the same fault at the same place. */
    private static void garbled(int seed) {
        Random random = new Random(seed);
        WhiteBoard x = new WhiteBoard();
        Model model = new Model();
        String whole = text(random);
        List<String> tokens = new ArrayList<>();
        java.util.regex.Matcher matcher = java.util.regex.Pattern.compile("[a-z]+|[0-9]+|[^ ]").matcher(whole);
        while (matcher.find()) {
            tokens.add(matcher.group());
        }
        int changes = random.nextInt(3);
        for (int i = 0; i < changes && !tokens.isEmpty(); i++) {
            int where = random.nextInt(tokens.size());
            String word = WORDS[random.nextInt(WORDS.length)];
            boolean isNumber = tokens.get(where).matches("[0-9]+");
            switch (random.nextInt(7)) {
                case 0: tokens.remove(where); break;
                case 1: tokens.add(where, word); break;
                case 2: tokens.add(where, tokens.get(random.nextInt(tokens.size()))); break;
                case 3: tokens.addAll(tokens.subList(tokens.subList(0, where).lastIndexOf(";") + 1, tokens.size())); break;
                case 4: tokens.set(where, word); break;
                default: tokens.set(where, isNumber ? "" + random.nextInt(random.nextBoolean() ? 10 : 100) : word);
            }
        }
        StringBuilder text = new StringBuilder();
        for (String token : tokens) {
            text.append(token).append(random.nextInt(4) == 0 ? "\n" : " ");
        }
        text.setLength(Math.min(700, text.length()));
        int n = random.nextInt(8) == 0 ? random.nextInt(text.length() + 1) : text.length();
        tell(new StringBuilder("garbled " + seed + ": "), x, model, text.substring(0, n));
    }
}
