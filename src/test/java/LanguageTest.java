import com.sun.management.ThreadMXBean;
import com.sun.source.tree.ClassTree;
import com.sun.source.tree.CompilationUnitTree;
import com.sun.source.tree.MethodInvocationTree;
import com.sun.source.tree.MethodTree;
import com.sun.source.tree.NewClassTree;
import com.sun.source.util.JavacTask;
import com.sun.source.util.TreePathScanner;
import com.sun.source.util.Trees;
import java.io.IOException;
import java.lang.management.ManagementFactory;
import java.lang.reflect.Constructor;
import java.lang.reflect.Field;
import java.lang.reflect.InvocationTargetException;
import java.lang.reflect.Method;
import java.lang.reflect.Modifier;
import java.nio.charset.StandardCharsets;
import java.nio.file.Files;
import java.nio.file.Path;
import java.util.ArrayList;
import java.util.Arrays;
import java.util.HashMap;
import java.util.HashSet;
import java.util.LinkedHashSet;
import java.util.List;
import java.util.Map;
import java.util.Random;
import java.util.Set;
import java.util.TreeSet;
import java.util.regex.Matcher;
import java.util.regex.Pattern;
import javax.lang.model.element.Element;
import javax.lang.model.element.ElementKind;
import javax.tools.JavaCompiler;
import javax.tools.StandardJavaFileManager;
import javax.tools.ToolProvider;

/** What ../shared/LANGUAGE.md asks of the class, as far as a test can look at it. It runs in the project's folder. */
public final class LanguageTest {
    private static final Path SOURCE = Path.of("src/main/java/CreakingGhosts.java");
    private static final Set<String> CONSTANTS =
        Set.of("NO_SUCH", "BAD_VALUE", "BAD_TEXT", "TOO_MANY", "NOT_POSSIBLE", "NONE", "BELL", "AWAKE");
    private static final String[] FACE = {
        "set(int,int)", "lay(int,int,int,int)", "read()", "takeUp(int)", "sleeper(int,int)", "put(int,int)",
        "glide(int,int)", "go(int,int)", "pass(int)", "board(int,int)", "ghost(int,int)", "sleeperOf(int,int)",
        "loudness(int,int)", "far(int,int)", "count(int)", "soonest(int,int,int)", "quietest(int,int)", "reason(int)",
        "trail(int,int)", "worstGap(int)", "write(long)", "wipe()", "fault()", "undo()", "save(int)", "restore(int)"};
    private static final String[] FORBIDDEN = {
        "throw", "throws", "try", "catch", "finally", "synchronized", "assert", "import", "package", "volatile", "native",
        "protected", "->", "::", "Exact\\s*\\(", "System\\.(?!arraycopy)", "static\\s*\\{", "float", "double"};
    private static final int LONGEST_METHOD = 60, MOST_CLASSES = 12, MOST_FIELDS = 20, MOST_PARAMETERS = 7, DEEPEST_CALLS = 8;

    private static int wrong = 0;

    private static void holds(boolean fact, String rule) {
        if (!fact) {
            wrong++;
            System.out.println("does not hold: " + rule);
        }
    }

    private static String signature(Method method) {
        StringBuilder types = new StringBuilder();
        for (Class<?> type : method.getParameterTypes()) types.append(types.length() == 0 ? "" : ",").append(type.getName());
        return method.getName() + "(" + types + ")";
    }

    private static void lookAtFace() {
        Class<?> face = CreakingGhosts.class;
        holds(Modifier.isPublic(face.getModifiers()) && Modifier.isFinal(face.getModifiers()), "1: the class is public and final");
        Set<String> open = new TreeSet<>();
        for (Method method : face.getDeclaredMethods()) {
            if (Modifier.isPrivate(method.getModifiers())) continue;
            open.add(signature(method));
            holds(Modifier.isPublic(method.getModifiers()) && method.getReturnType() == int.class
                && !Modifier.isStatic(method.getModifiers()), "1: " + method + " is a public method that returns an int");
        }
        holds(open.equals(new TreeSet<>(Arrays.asList(FACE))), "1: the open methods are those of the document: " + open);
        Set<String> constants = new TreeSet<>();
        for (Field field : face.getDeclaredFields()) {
            if (!Modifier.isPrivate(field.getModifiers())) constants.add(field.getName());
        }
        holds(constants.equals(CONSTANTS), "1: the open fields are the constants of the document: " + constants);
        Constructor<?>[] constructors = face.getDeclaredConstructors();
        holds(constructors.length == 1 && constructors[0].getParameterCount() == 0
            && Modifier.isPublic(constructors[0].getModifiers()), "1: one public constructor without parameters");
    }

    private static void lookAtClasses() {
        List<Class<?>> classes = new ArrayList<>(Arrays.asList(CreakingGhosts.class.getDeclaredClasses()));
        for (Class<?> inside : classes) {
            holds(Modifier.isStatic(inside.getModifiers()) && !Modifier.isPublic(inside.getModifiers()), "2: " + inside + " is static");
        }
        classes.add(CreakingGhosts.class);
        holds(classes.size() <= MOST_CLASSES, "11: at most twelve classes");
        Set<String> names = new TreeSet<>();
        for (String entry : FACE) names.add(entry.substring(0, entry.indexOf('(')));
        for (Class<?> one : classes) {
            int fields = 0;
            for (Field field : one.getDeclaredFields()) {
                if (!Modifier.isStatic(field.getModifiers())) fields++;
                else holds(Modifier.isFinal(field.getModifiers()), "5: " + field + " is final");
            }
            holds(fields <= MOST_FIELDS, "11: at most twenty fields in " + one);
            for (Method method : one.getDeclaredMethods()) {
                holds(method.getParameterCount() <= MOST_PARAMETERS, "11: at most seven parameters of " + method);
                holds(Modifier.isPublic(method.getModifiers()) || !names.contains(method.getName()),
                    "1: " + method + " does not bear the name of a public one");
            }
        }
    }

    private static String withoutCommentsAndTexts(String source) {
        return source.replaceAll("(?s)/\\*.*?\\*/", "").replaceAll("//[^\\n]*", "").replaceAll("\"[^\"]*\"", "\"\"");
    }

    private static void lookAtSource() throws IOException {
        String source = Files.readString(SOURCE, StandardCharsets.UTF_8);
        holds(source.chars().allMatch(sign -> sign == '\n' || sign >= 32 && sign < 127), "4: signs 1 to 127");
        String code = withoutCommentsAndTexts(source);
        for (String word : FORBIDDEN) {
            String whole = Character.isLetter(word.charAt(0)) ? "\\b" + word + (word.matches("\\w+") ? "\\b" : "") : word;
            Matcher found = Pattern.compile(whole).matcher(code);
            holds(!found.find(), "4, 6: the code is without " + word);
        }
        int start = -1;
        String[] lines = source.split("\n");
        for (int i = 0; i < lines.length; i++) {
            if (lines[i].matches(" {4}( {4})?\\w[^=;]*\\(.*\\{") && !lines[i].contains(" class ")) start = i;
            if (start >= 0 && lines[i].matches(" {4}( {4})?\\}")) {
                holds(i - start <= LONGEST_METHOD, "11: the method at line " + (start + 1) + " is short");
                start = -1;
            }
        }
    }

    /** Which method of the file calls which; what fields begin with is called by the constructors of their class. */
    private static final class Calls extends TreePathScanner<Void, Void> {
        private final Trees trees;
        private final Map<Element, Set<Element>> called = new HashMap<>();
        private Element caller;

        Calls(Trees trees) {
            this.trees = trees;
        }

        private void call(Element method) {
            if (caller != null && method != null) called.computeIfAbsent(caller, k -> new LinkedHashSet<>()).add(method);
        }

        @Override
        public Void visitClass(ClassTree tree, Void none) {
            Element outer = caller;
            caller = null;
            for (Element member : trees.getElement(getCurrentPath()).getEnclosedElements()) {
                if (member.getKind() == ElementKind.CONSTRUCTOR) caller = member;
            }
            super.visitClass(tree, none);
            caller = outer;
            return null;
        }

        @Override
        public Void visitMethod(MethodTree tree, Void none) {
            Element outer = caller;
            caller = trees.getElement(getCurrentPath());
            super.visitMethod(tree, none);
            caller = outer;
            return null;
        }

        @Override
        public Void visitMethodInvocation(MethodInvocationTree tree, Void none) {
            call(trees.getElement(getCurrentPath()));
            return super.visitMethodInvocation(tree, none);
        }

        @Override
        public Void visitNewClass(NewClassTree tree, Void none) {
            call(trees.getElement(getCurrentPath()));
            return super.visitNewClass(tree, none);
        }

        /** How many calls stand open at once; a call of the library counts as one. */
        int depth(Element method, Set<Element> open) {
            if (!open.add(method)) {
                holds(false, "8: " + method + " calls itself");
                return 0;
            }
            int deepest = 0;
            for (Element next : called.getOrDefault(method, Set.of())) {
                // Every constructor begins with that of Object, which is no call of the program.
                if (!next.getEnclosingElement().toString().equals("java.lang.Object")) deepest = Math.max(deepest, depth(next, open));
            }
            open.remove(method);
            return deepest + 1;
        }
    }

    private static void lookAtCalls() throws IOException {
        JavaCompiler compiler = ToolProvider.getSystemJavaCompiler();
        try (StandardJavaFileManager files = compiler.getStandardFileManager(null, null, StandardCharsets.UTF_8)) {
            JavacTask task = (JavacTask) compiler.getTask(null, files, null, List.of("-proc:none"), null, files.getJavaFileObjects(SOURCE));
            Calls calls = new Calls(Trees.instance(task));
            Iterable<? extends CompilationUnitTree> units = task.parse();
            task.analyze();
            for (CompilationUnitTree unit : units) calls.scan(unit, null);
            int deepest = 0;
            for (Element method : new ArrayList<>(calls.called.keySet())) {
                int depth = calls.depth(method, new HashSet<>());
                holds(depth <= DEEPEST_CALLS, "11: calls go at most eight deep, those of " + method + " " + depth);
                deepest = Math.max(deepest, depth);
            }
            holds(deepest > 3, "11: the test finds calls: " + deepest);
        }
    }

    /** A run of 512 calls with arguments of every kind, big boards and all. */
    private static void callAll(CreakingGhosts x, Method[] methods, Random random) throws IllegalAccessException {
        for (int i = 0; i < 512; i++) {
            Method method = methods[random.nextInt(methods.length)];
            Class<?>[] types = method.getParameterTypes();
            Object[] arguments = new Object[types.length];
            for (int k = 0; k < types.length; k++) {
                int small = random.nextInt(6) == 0 ? random.nextInt() >> random.nextInt(32) : random.nextInt(10);
                if (types[k] == long.class) arguments[k] = random.nextInt(3) == 0 ? random.nextLong() : 0x6162313163643131L >>> 32;
                else arguments[k] = small;
            }
            try {
                method.invoke(x, arguments);
            } catch (InvocationTargetException thrown) {
                holds(false, "7: " + method.getName() + Arrays.toString(arguments) + " threw " + thrown.getCause());
            }
        }
    }

    private static void callWithEverything() throws IllegalAccessException {
        List<Method> methods = new ArrayList<>();
        for (Method method : CreakingGhosts.class.getDeclaredMethods()) {
            if (Modifier.isPublic(method.getModifiers())) methods.add(method);
        }
        methods.sort((one, other) -> signature(one).compareTo(signature(other)));
        for (int seed = 0; seed < 500; seed++) callAll(new CreakingGhosts(), methods.toArray(new Method[0]), new Random(seed));
    }

    /** Each method many times, over as many boards and sleepers as there can be. */
    private static int askMost(CreakingGhosts x) {
        int sum = 0;
        for (int i = 0; i < 20; i++) sum += x.lay(i % 10, (i + 1 + i / 10) % 10, 1 + i % 9, 1 + i % 9);
        for (int i = 0; i < 5; i++) sum += x.sleeper(i, 9);
        for (int i = 0; i < 17; i++) {
            int ghost = i % 4, room = i % 10, sleeper = i % 5;
            sum += x.set(i % 2, 20) + x.write(0x61623131L) + x.fault() + x.save(i % 2) + x.takeUp(i) + x.read() + x.wipe();
            sum += x.put(ghost, room) + x.glide(ghost, i) + x.undo() + x.go(ghost, 9 - room) + x.pass(i + 1) + x.undo();
            sum += x.board(i, 5) + x.ghost(ghost, 3) + x.sleeperOf(sleeper, 4) + x.loudness(i, sleeper) + x.far(room, 9);
            sum += x.count(6) + x.soonest(ghost, room, i % 5) + x.quietest(ghost, room) + x.reason(ghost) + x.trail(ghost, 19);
            sum += x.worstGap(1) + x.restore(i % 2);
        }
        return sum;
    }

    private static void countWhatIsMade() {
        ThreadMXBean threads = (ThreadMXBean) ManagementFactory.getThreadMXBean();
        long thread = Thread.currentThread().getId();
        askMost(new CreakingGhosts());
        long before = threads.getThreadAllocatedBytes(thread);
        CreakingGhosts x = new CreakingGhosts();
        long made = threads.getThreadAllocatedBytes(thread);
        askMost(x);
        long behind = threads.getThreadAllocatedBytes(thread);
        holds(made - before < 64 * 1024, "12: an object is small, but takes bytes: " + (made - before));
        holds(behind - made < 4 * 1024, "12: calls make nothing, but took bytes: " + (behind - made));
    }

    public static void main(String[] args) throws IOException, IllegalAccessException {
        lookAtFace();
        lookAtClasses();
        lookAtSource();
        lookAtCalls();
        // Ahead of the many calls, after which the compiler may leave out what is made in vain.
        countWhatIsMade();
        callWithEverything();
        System.out.println(wrong == 0 ? "the form is as it should be" : wrong + " rules do not hold");
        if (wrong != 0) System.exit(1);
    }
}
