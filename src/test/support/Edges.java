import java.io.IOException;
import java.lang.reflect.InvocationTargetException;
import java.lang.reflect.Method;
import java.nio.charset.StandardCharsets;
import java.nio.file.Files;
import java.nio.file.Path;
import java.util.Arrays;
import java.util.Comparator;

/** Runs the tests of boundary cases, and what they have in common. */
class Edges {
    static final int NO_SUCH = -1, BAD_VALUE = -2, BAD_TEXT = -3, TOO_MANY = -4, NOT_POSSIBLE = -5, NONE = -6;
    static final int BELL = 0, AWAKE = 1;
    /** No number of anything; 32 and its like are one that a shift would take for another. */
    static final int[] FAR_OFF = {Integer.MIN_VALUE, Integer.MIN_VALUE + 1, -64, -33, -32, -31, -1, 32, 33, 64, 256,
        1 << 16, Integer.MAX_VALUE - 1, Integer.MAX_VALUE};

    private static final Path DOCUMENT = Path.of("../shared/DOC.md");
    private static int wrong;
    private static String edge = "";

    /** A call that is made on an object that a test has prepared. */
    interface Call {
        int on(Counted x);
    }

    static void is(String call, long got, long want) {
        if (got != want) tell(call + " answered " + got + ", due is " + want);
    }

    static void same(String what, String got, String want) {
        if (!got.equals(want)) tell(what + " is " + got + ", due is " + want);
    }

    private static void tell(String fault) {
        wrong++;
        System.out.println(edge + ": " + fault);
    }

    // ---- texts

    /** Packs at most 8 characters the way write() takes them. */
    static long packed(String text) {
        long characters = 0;
        for (int i = 0; i < text.length(); i++) characters = characters << 8 | text.charAt(i);
        return characters;
    }

    static Counted written(Counted x, String text) {
        for (int i = 0; i < text.length(); i += 8) {
            String part = text.substring(i, Math.min(i + 8, text.length()));
            is("write of " + part, x.write(packed(part)), i + part.length());
        }
        return x;
    }

    /** A new object with the boards of a text, laid one by one. */
    static Counted boards(String text) {
        Counted x = new Counted();
        for (int i = 0; i < text.length(); i += 5) {
            int number = x.lay(text.charAt(i) - 'a', text.charAt(i + 1) - 'a', text.charAt(i + 2) - '0', text.charAt(i + 3) - '0');
            is("lay of " + text.substring(i, i + 4), number, i / 5);
        }
        return x;
    }

    /** As many boards between the rooms 0 and 1. */
    static Counted many(int boards) {
        Counted x = new Counted();
        for (int i = 0; i < boards; i++) is("lay " + i, x.lay(i % 2, 1 - i % 2, 1 + i % 9, 1 + i % 8), i);
        return x;
    }

    // ---- states

    /** Every number that tells of the state, but for the pad and the history. */
    static String state(Counted x) {
        StringBuilder all = new StringBuilder();
        for (int what = 0; what <= 8; what++) all.append(x.count(what)).append(' ');
        int boards = x.count(3), sleepers = x.count(4);
        for (int board = 0; board < boards; board++) {
            for (int what : new int[] {0, 1, 2, 3, 6}) all.append(x.board(board, what)).append(' ');
        }
        for (int ghost = 0; ghost < 4; ghost++) {
            for (int what = 0; what <= 4; what++) all.append(x.ghost(ghost, what)).append(' ');
        }
        for (int sleeper = 0; sleeper < sleepers; sleeper++) {
            for (int what = 0; what <= 4; what++) all.append(x.sleeperOf(sleeper, what)).append(' ');
        }
        return all.toString();
    }

    /** State, pad, history and slots; what is behind undo() and restore() is told in short. */
    private static String everything(Counted x) {
        StringBuilder all = new StringBuilder(state(x));
        all.append("pad ").append(x.count(9)).append(' ').append(x.fault());
        for (int kept = x.count(10); kept > 0; kept--) all.append(" undo ").append(x.undo()).append(' ').append(brief(x));
        for (int slot = 0; slot < 2; slot++) all.append(" slot ").append(x.restore(slot)).append(' ').append(brief(x));
        return all.toString();
    }

    private static String brief(Counted x) {
        StringBuilder all = new StringBuilder();
        for (int what : new int[] {0, 1, 2, 3, 4, 5, 7}) all.append(x.count(what)).append(' ');
        for (int ghost = 0; ghost < 4; ghost++) all.append(x.ghost(ghost, 0)).append(' ').append(x.ghost(ghost, 1)).append(' ');
        return all.toString();
    }

    /** Something of everything: two saved states, six that can be undone, and an unfinished text. */
    static Counted busy() {
        Counted x = boards("ab91;bc82;cd73;ad64;ef55");
        x.sleeper(2, 7);
        x.sleeper(9, 1);
        x.save(1);
        x.glide(1, 0);
        x.pass(58);
        x.set(BELL, 25);
        x.set(AWAKE, 30);
        x.save(0);
        x.put(3, 4);
        x.glide(3, 4);
        x.glide(0, 0);
        return written(x, "ab12;b");
    }

    /** A call on a busy object answers the error, and everything is as it was. */
    static void refused(String call, int error, Call refused) {
        refusedOn(busy(), busy(), call, error, refused);
    }

    /** The same of two objects that were made by the same calls. */
    static void refusedOn(Counted x, Counted twin, String call, int error, Call refused) {
        is(call, refused.on(x), error);
        same("everything behind " + call, everything(x), everything(twin));
    }

    // ---- the run

    private static String plain(String text) {
        return text.replaceAll("\\s+", " ");
    }

    /** The section of a promise; the terms for 0. */
    private static String section(String document, int promise) {
        String start = promise == 0 ? "## Terms" : "## Promise " + promise + ":";
        int from = document.indexOf(start);
        int to = document.indexOf("\n## ", from + 1);
        return from < 0 || to < 0 ? "" : plain(document.substring(from, to));
    }

    private static void runOne(Method test, String document) throws IllegalAccessException {
        Edge words = test.getAnnotation(Edge.class);
        edge = (words.promise() == 0 ? "terms" : "promise " + words.promise()) + ", " + test.getName();
        if (!section(document, words.promise()).contains(plain(words.says()))) tell("the document does not say: " + words.says());
        try {
            test.setAccessible(true);
            test.invoke(null);
        } catch (InvocationTargetException thrown) {
            tell("threw " + thrown.getCause());
        }
    }

    /** Runs every edge of a class, and ends with 1 if one does not hold or a promise has none. */
    static void run(Class<?> tests, int firstPromise, int lastPromise) throws IOException, IllegalAccessException {
        String document = Files.readString(DOCUMENT, StandardCharsets.UTF_8);
        Method[] methods = tests.getDeclaredMethods();
        Arrays.sort(methods, Comparator.comparing(Method::getName));
        boolean[] tested = new boolean[28];
        int many = 0;
        for (Method method : methods) {
            if (!method.isAnnotationPresent(Edge.class)) continue;
            tested[method.getAnnotation(Edge.class).promise()] = true;
            many++;
            runOne(method, document);
        }
        edge = tests.getSimpleName();
        for (int promise = firstPromise; promise <= lastPromise; promise++) {
            if (!tested[promise]) tell("no edge of promise " + promise);
        }
        System.out.println(wrong == 0 ? "all " + many + " edges hold" : wrong + " answers are not as due");
        if (wrong != 0) System.exit(1);
    }
}
