import java.lang.reflect.Constructor;
import java.lang.reflect.Field;
import java.lang.reflect.Method;
import java.lang.reflect.Modifier;
import java.util.Arrays;
import java.util.Set;
import java.util.TreeSet;

/** The class's face is the document's and nothing more; promise 1: a new object. */
public final class FaceTest {
    private static final String[] FACE = {
        "int feed(int,int,int,int,int)", "int board(int) IllegalArgumentException", "int fault()",
        "int count(int) NoSuchElementException", "int master(int,int) NoSuchElementException",
        "int place(int,int) NoSuchElementException", "int person(int,int) NoSuchElementException",
        "int grudge(int,int) NoSuchElementException", "int mornings(int)",
        "int go(int,int) NoSuchElementException", "boolean write(int) NoSuchElementException",
        "int strike(int) NoSuchElementException", "boolean open(boolean)", "int undo()",
        "int when(int,int) NoSuchElementException", "int found(int) NoSuchElementException",
        "int next(int) IllegalArgumentException",
        "int owes(int,int) NoSuchElementException IllegalArgumentException",
        "int instead(int) NoSuchElementException", "int out(int) NoSuchElementException",
        "int gate(int) NoSuchElementException",
        "int surest(int,int) NoSuchElementException IllegalArgumentException",
        "int close(int) IllegalArgumentException", "int spared()",
        "int see(int,int,boolean) NoSuchElementException", "void forget()",
        "int scribe(int) NoSuchElementException", "int tells(int) NoSuchElementException",
        "int roll(int) IllegalArgumentException",
        "int bargain(int,int,int) NoSuchElementException IllegalArgumentException",
        "int lists(int,int,int) NoSuchElementException IllegalArgumentException",
        "int far(int,int) NoSuchElementException", "int refuge(int) NoSuchElementException",
        "int richest()", "int worst(int) NoSuchElementException", "int idle()",
        "int stay(int,int) NoSuchElementException", "int sought()",
        "int steps(int,int) NoSuchElementException", "void image()", "boolean restore()",
    };

    public static void main(String[] args) {
        face();
        newObject();
        Check.end("FaceTest");
    }

    private static void face() {
        Set<String> due = new TreeSet<>(Arrays.asList(FACE));
        Set<String> names = new TreeSet<>();
        Set<String> got = new TreeSet<>();
        for (Method method : WhiteBoard.class.getDeclaredMethods()) {
            if (Modifier.isPublic(method.getModifiers())) {
                got.add(signature(method));
                names.add(method.getName());
            }
        }
        Check.due("methods of the face, due " + due + ", got " + got, got.equals(due), true);
        for (Method method : WhiteBoard.class.getDeclaredMethods()) {
            int modifiers = method.getModifiers();
            boolean isPrivate = Modifier.isPrivate(modifiers);
            Check.due(method + " is private or public", isPrivate || Modifier.isPublic(modifiers), true);
            Check.due(method + " is private and has a public one's name",
                isPrivate && names.contains(method.getName()), false);
        }
        for (Field field : WhiteBoard.class.getDeclaredFields()) {
            boolean isNone = field.getName().equals("NONE");
            Check.due(field + " is public", Modifier.isPublic(field.getModifiers()), isNone);
            Check.due(field + " is private", Modifier.isPrivate(field.getModifiers()), !isNone);
        }
        Constructor<?>[] constructors = WhiteBoard.class.getDeclaredConstructors();
        Check.due("constructors", constructors.length, 1);
        Check.due("the constructor is public", Modifier.isPublic(constructors[0].getModifiers()), true);
        Check.due("the class is final", Modifier.isFinal(WhiteBoard.class.getModifiers()), true);
        Check.due("NONE", WhiteBoard.NONE, -1);
    }

    private static String signature(Method method) {
        StringBuilder text = new StringBuilder();
        text.append(method.getReturnType().getSimpleName()).append(' ').append(method.getName()).append('(');
        String comma = "";
        for (Class<?> type : method.getParameterTypes()) {
            text.append(comma).append(type.getSimpleName());
            comma = ",";
        }
        text.append(')');
        for (Class<?> type : method.getExceptionTypes()) {
            text.append(' ').append(type.getSimpleName());
        }
        return text.toString();
    }

    private static void newObject() {
        WhiteBoard x = new WhiteBoard();
        for (int what = 0; what <= 16; what++) {
            Check.due("new: count(" + what + ")", x.count(what), what == 9 ? 1 : 0);
        }
        Check.due("new: fault", x.fault(), -1);
        Check.due("new: undo", x.undo(), -1);
        Check.due("new: restore", x.restore(), false);
        Check.due("new: sought", x.sought(), 0);
        Check.due("new: spared", x.spared(), 0);
        Check.due("new: next(0)", x.next(0), -1);
        Check.due("new: close(0)", x.close(0), 30);
        Check.due("new: idle", x.idle(), 0);
        Check.due("new: worst(0)", x.worst(0), -1);
        Check.due("new: worst(1)", x.worst(1), 0);
        Check.due("new: richest", x.richest(), -1);
        Check.due("new: scribe(0)", x.scribe(0), 0);
        Check.due("new: scribe(1)", x.scribe(1), -1);
        Check.due("new: scribe(2)", x.scribe(2), 1);
        Check.due("new: tells(0)", x.tells(0), -1);
        Check.due("new: tells(1)", x.tells(1), 0);
        Check.due("new: roll(0)", x.roll(0), 0);
        Check.due("new: lists", x.lists(1, 60, 0), 0);
        Check.noSuch("new: master(0, 0)", () -> x.master(0, 0));
        Check.noSuch("new: place(0, 0)", () -> x.place(0, 0));
        Check.noSuch("new: person(0, 0)", () -> x.person(0, 0));
        Check.due("new: mornings(20)", x.mornings(20), 20);
        Check.due("new: board(0)", x.board(0), 0);
        Check.due("new: day behind board(0)", x.count(4), 0);
    }
}
