import java.io.IOException;
import java.lang.reflect.Array;
import java.lang.reflect.Constructor;
import java.lang.reflect.Field;
import java.lang.reflect.Method;
import java.lang.reflect.Modifier;
import java.nio.file.Files;
import java.nio.file.Path;
import java.util.ArrayDeque;
import java.util.Arrays;
import java.util.Collections;
import java.util.IdentityHashMap;
import java.util.List;
import java.util.Random;
import java.util.Set;
import java.util.TreeSet;
import java.util.regex.Matcher;
import java.util.regex.Pattern;
import java.util.stream.Collectors;

/** The face, the rules of the language that a test can see, and the room that an object takes. */
public final class RulesTest {
    private static final Check check = new Check("RulesTest");
    private static final String BOUNDS = "throws IndexOutOfBoundsException";
    private static final List<String> FACE = List.of(
        "int feed(int,int,int,int,int) throws IllegalStateException",
        "int trim(int) throws IllegalArgumentException",
        "int load()", "int errorAt()", "int restore()", "int functions()",
        "int parametersOf(int) " + BOUNDS, "int blocks(int) " + BOUNDS, "int values(int) " + BOUNDS,
        "int blockOf(int,int) " + BOUNDS, "int dominatorOf(int,int) " + BOUNDS, "int depthOf(int,int) " + BOUNDS,
        "int predecessors(int,int) " + BOUNDS, "int predecessor(int,int,int) " + BOUNDS,
        "int endOf(int,int) " + BOUNDS, "int successor(int,int,boolean) " + BOUNDS, "int endValue(int,int) " + BOUNDS,
        "int phis(int,int) " + BOUNDS, "int phiGives(int,int,int) " + BOUNDS,
        "int phiTakes(int,int,int,int) " + BOUNDS, "int steps(int,int) " + BOUNDS, "int kindOf(int,int,int) " + BOUNDS,
        "int gives(int,int,int) " + BOUNDS, "int leftOf(int,int,int) " + BOUNDS, "int rightOf(int,int,int) " + BOUNDS,
        "int fold()", "int same()", "int drop()", "int lift()", "int merge()", "int settle()",
        "int allocate(int) throws IllegalArgumentException,IllegalStateException",
        "int lines(int) " + BOUNDS, "int codeKind(int,int) " + BOUNDS, "int codeGives(int,int) " + BOUNDS,
        "int codeLeft(int,int) " + BOUNDS, "int codeRight(int,int) " + BOUNDS, "int slots(int) " + BOUNDS,
        "int united(int) " + BOUNDS, "int rounds(int) " + BOUNDS,
        "int run(int,int,int,int,int,int) " + BOUNDS + ",IllegalArgumentException,IllegalStateException",
        "int outcome()", "int result()", "int stepsRun()", "int word(int) " + BOUNDS,
        "int differences(int,int,int) " + BOUNDS + ",IllegalArgumentException", "double meanCode()", "long digest()");

    public static void main(String[] args) throws Exception {
        face();
        faceOfTheDocument();
        inside();
        source();
        room();
        check.end();
    }

    private static void face() {
        Set<String> names = new TreeSet<>();
        for (Method method : Gearbox.class.getDeclaredMethods()) {
            if (!Modifier.isPrivate(method.getModifiers()) && !method.isSynthetic()) {
                check.isTrue(method + " is public and no more",
                    Modifier.isPublic(method.getModifiers()) && !Modifier.isStatic(method.getModifiers()));
                names.add(method.getReturnType() + " " + method.getName() + "("
                    + list(method.getParameterTypes()) + ")"
                    + (method.getExceptionTypes().length == 0 ? "" : " throws " + list(method.getExceptionTypes())));
            }
        }
        check.isTrue("the methods are those of the document: " + names, names.equals(new TreeSet<>(FACE)));
        check.isTrue("the class is public and final", Gearbox.class.getModifiers() == (Modifier.PUBLIC | Modifier.FINAL));
        Constructor<?>[] constructors = Gearbox.class.getDeclaredConstructors();
        check.isTrue("there is one public constructor", constructors.length == 1
            && constructors[0].getParameterCount() == 0 && constructors[0].getModifiers() == Modifier.PUBLIC);
        for (Field field : Gearbox.class.getDeclaredFields()) {
            check.isTrue(field + " is private", Modifier.isPrivate(field.getModifiers()));
        }
    }

    /** Each line of the document's face stands in the source, with the names of its parameters, below its heading. */
    private static void faceOfTheDocument() throws IOException {
        Path file = Path.of("../shared/DOC.md");
        if (!Files.exists(file)) {
            return;
        }
        String document = Files.readString(file);
        String source = Files.readString(Path.of("src/main/java/Gearbox.java")).replaceAll("\\s+", " ");
        String block = document.substring(document.indexOf("```java"), document.indexOf("## Terms"));
        Matcher lines = Pattern.compile("\n    (public [^;]*);").matcher(block);
        int count = 0;
        for (; lines.find(); count++) {
            check.isTrue("the source has: " + lines.group(1), source.contains(" " + lines.group(1) + " {"));
        }
        check.same("members of the document's face", count, FACE.size() + 1);
        Matcher parts = Pattern.compile("Ahead of the calls (.*) the interface says: (---- .*)\\.").matcher(document);
        for (; parts.find(); count--) {
            int at = source.indexOf("// " + parts.group(2) + " ");
            int end = source.indexOf("// ----", at + 1);
            for (String name : parts.group(1).replace("`", "").split(", ")) {
                int there = Math.max(source.indexOf(" public int " + name + "("),
                    Math.max(source.indexOf(" public double " + name + "("), source.indexOf(" public long " + name + "(")));
                check.isTrue(name + " stands below " + parts.group(2), at >= 0 && at < there && there < end);
            }
        }
        check.same("members of the face but for its six parts", count, FACE.size() + 1 - 6);
    }

    private static String list(Class<?>[] types) {
        return Arrays.stream(types).map(Class::getSimpleName).collect(Collectors.joining(","));
    }

    private static void inside() {
        Set<String> names = FACE.stream().map(line -> line.replaceAll("^\\w+ (\\w+)\\(.*", "$1"))
            .collect(Collectors.toSet());
        Class<?>[] classes = Gearbox.class.getDeclaredClasses();
        check.isTrue("there are some twelve classes", classes.length <= 12);
        for (Class<?> inner : classes) {
            check.isTrue(inner + " is private and static",
                Modifier.isPrivate(inner.getModifiers()) && Modifier.isStatic(inner.getModifiers()));
            int fields = 0;
            for (Field field : inner.getDeclaredFields()) {
                boolean isStatic = Modifier.isStatic(field.getModifiers());
                check.isTrue(field + " is final if it is static", !isStatic || Modifier.isFinal(field.getModifiers()));
                fields += isStatic ? 0 : 1;
            }
            check.isTrue(inner + " has some twenty fields, not " + fields, fields <= 22);
            for (Method method : inner.getDeclaredMethods()) {
                check.isTrue(method + " has a name of its own", !names.contains(method.getName()));
                check.isTrue(method + " has seven parameters at most", method.getParameterCount() <= 7);
            }
        }
        for (Method method : Gearbox.class.getDeclaredMethods()) {
            check.isTrue(method + " has a name of its own",
                !Modifier.isPrivate(method.getModifiers()) || !names.contains(method.getName()));
        }
    }

    private static void source() throws IOException {
        String source = Files.readString(Path.of("src/main/java/Gearbox.java"));
        String code = source.replaceAll("(?s)/\\*.*?\\*/", "").replaceAll("//[^\n]*", "");
        String[] forbidden = {"->", "::", "finally", "synchronized", "assert", "Exact", "native", "volatile", "Object ",
            "Throwable", "catch \\(Exception", "catch \\(RuntimeException", "ArrayIndexOutOfBoundsException",
            "NullPointerException", "ClassCastException", "NegativeArraySizeException", "System\\.(?!arraycopy)",
            "Math\\.(?!max|min|abs)", "while \\(true\\)", "for \\(;;", "static \\{", "package ", "protected ", "var [a-z]",
            "hashCode", "toString\\(", "getMessage", "Thread", "Random", "\\+ \"", "\" \\+"};
        for (String word : forbidden) {
            check.isTrue("there is no " + word, !Pattern.compile(word).matcher(code).find());
        }
        Matcher imports = Pattern.compile("import ([^;]*);").matcher(code);
        while (imports.find()) {
            check.isTrue("the import of " + imports.group(1), imports.group(1).equals("java.util.Arrays"));
        }
        check.isTrue("all signs are 1 to 127", source.chars().allMatch(c -> c < 128));
        methodsAreShort(source);
    }

    private static void methodsAreShort(String source) {
        int from = 0;
        String name = "";
        String[] lines = source.split("\n");
        for (int n = 0; n < lines.length; n++) {
            if (lines[n].matches("( {4}| {8})\\w.*\\) ?(throws [\\w, ]+)?\\{")) {
                from = n;
                name = lines[n].trim();
            } else if (lines[n].matches("( {4}| {8})\\}") && !name.isEmpty()) {
                check.isTrue(name + " is short", n - from < 60);
                name = "";
            }
        }
    }

    // ---- room

    private static final int MOST_OBJECTS = 600000;
    private static final int MOST_ELEMENTS = 7300000;

    private static void room() throws IllegalAccessException {
        Gearbox box = new Gearbox();
        long[] fresh = count(box);
        System.out.println("RulesTest: a new object takes " + fresh[0] + " objects, " + fresh[1] + " elements");
        check.isTrue("a new object is small", fresh[0] < MOST_OBJECTS / 100 && fresh[1] < MOST_ELEMENTS / 20);
        // 512 of the dearest calls.
        Random random = new Random(1);
        Programs maker = new Programs(random);
        for (int n = 0; n < 128; n++) {
            String text = n % 4 == 0 ? shuffled(24 + n % 13, 28 - n % 9) : n % 4 == 1 ? maker.climb() : maker.shuffle();
            if (text.length() < 1200 && Tape.load(box, text) == 0) {
                box.allocate(3);
                box.differences(0, 1, 6);
                box.settle();
                box.allocate(n % 4 == 1 ? 8 : 3 + n % 6);
            }
        }
        long[] later = count(box);
        System.out.println("RulesTest: a used object takes " + later[0] + " objects, " + later[1] + " elements");
        check.isTrue("no call leaves objects behind", later[0] == fresh[0]);
        // Rows that grow do so by half at least, so all that there ever were are three times as many at most.
        check.isTrue("rows do not grow without a bound", later[1] * 3 < MOST_ELEMENTS);
    }

    /** Variables that change places in pairs in a loop with many ways back: with a great many copies. */
    private static String shuffled(int variables, int ways) {
        StringBuilder text = new StringBuilder("fun f(p,q){");
        for (int n = 0; n < variables; n++) {
            text.append("var v").append(Integer.toString(n, 36)).append("=p;");
        }
        text.append("while q{");
        for (int n = 0; n + 1 < variables; n += 2) {
            String one = "v" + Integer.toString(n, 36);
            String other = "v" + Integer.toString(n + 1, 36);
            text.append("p=" + one + ";" + one + "=" + other + ";" + other + "=p;");
        }
        return text.append("if q{continue;}".repeat(ways)).append("}return v0;}").toString();
    }

    /** How many objects and arrays can be reached from an object, and how many fields and elements these have. */
    private static long[] count(Object root) throws IllegalAccessException {
        Set<Object> seen = Collections.newSetFromMap(new IdentityHashMap<>());
        ArrayDeque<Object> todo = new ArrayDeque<>();
        todo.add(root);
        seen.add(root);
        long elements = 0;
        while (!todo.isEmpty()) {
            Object one = todo.poll();
            if (one.getClass().isArray()) {
                elements += Array.getLength(one);
                if (one instanceof Object[] all) {
                    for (Object other : all) {
                        add(other, seen, todo);
                    }
                }
            } else if (one.getClass().getName().startsWith("Gearbox")) {
                for (Field field : one.getClass().getDeclaredFields()) {
                    if (!Modifier.isStatic(field.getModifiers())) {
                        elements++;
                        field.setAccessible(true);
                        if (!field.getType().isPrimitive()) {
                            add(field.get(one), seen, todo);
                        }
                    }
                }
            }
        }
        return new long[] {seen.size(), elements};
    }

    private static void add(Object other, Set<Object> seen, ArrayDeque<Object> todo) {
        if (other != null && seen.add(other)) {
            todo.add(other);
        }
    }
}
