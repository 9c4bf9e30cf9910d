import java.lang.reflect.InvocationTargetException;
import java.lang.reflect.Method;
import java.lang.reflect.Modifier;
import java.util.ArrayList;
import java.util.Arrays;
import java.util.Comparator;
import java.util.List;
import java.util.Random;

/** What the document says of all calls: refused ones change nothing, the first exception counts, and 512 calls are answered. */
public final class RefusalBoundsTest {
    private static final Check check = new Check("RefusalBoundsTest");
    private static final int LEAST = Integer.MIN_VALUE;
    private static final int MOST = Integer.MAX_VALUE;
    private static final String ON_TAPE = "fun z(){return 77;}";

    public static void main(String[] args) throws IllegalAccessException {
        changesNothing();
        firstException();
        without();
        mostCalls();
        dearestCalls();
        anyArguments();
        check.end();
    }

    /** A call that is refused, and by what. */
    private record Refused(String name, Class<? extends Throwable> due, Runnable call) {
    }

    private static Class<? extends Throwable> index() {
        return IndexOutOfBoundsException.class;
    }

    private static Class<? extends Throwable> argument() {
        return IllegalArgumentException.class;
    }

    private static Class<? extends Throwable> state() {
        return IllegalStateException.class;
    }

    // ---- refused calls

    /** All methods that can throw, with numbers that they refuse whatever the program is. */
    private static List<Refused> refused(Gearbox box) {
        List<Refused> all = new ArrayList<>();
        for (int wrong : new int[] {-1, LEAST, MOST}) {
            all.add(new Refused("trim", argument(), () -> box.trim(wrong)));
            all.add(new Refused("allocate", argument(), () -> box.allocate(wrong)));
            all.add(new Refused("word", index(), () -> box.word(wrong)));
            all.add(new Refused("parametersOf", index(), () -> box.parametersOf(wrong)));
            all.add(new Refused("blocks", index(), () -> box.blocks(wrong)));
            all.add(new Refused("values", index(), () -> box.values(wrong)));
            all.add(new Refused("blockOf", index(), () -> box.blockOf(wrong, 0)));
            all.add(new Refused("lines", index(), () -> box.lines(wrong)));
            all.add(new Refused("slots", index(), () -> box.slots(wrong)));
            all.add(new Refused("united", index(), () -> box.united(wrong)));
            all.add(new Refused("rounds", index(), () -> box.rounds(wrong)));
            all.add(new Refused("run", index(), () -> box.run(0, wrong, 1, 2, 3, 4)));
            all.add(new Refused("differences", index(), () -> box.differences(wrong, 1, 2)));
            addBlocks(all, box, wrong, 0);
            addBlocks(all, box, 0, wrong);
            addParts(all, box, wrong);
        }
        return all;
    }

    private static void addBlocks(List<Refused> all, Gearbox box, int f, int b) {
        all.add(new Refused("dominatorOf", index(), () -> box.dominatorOf(f, b)));
        all.add(new Refused("depthOf", index(), () -> box.depthOf(f, b)));
        all.add(new Refused("predecessors", index(), () -> box.predecessors(f, b)));
        all.add(new Refused("predecessor", index(), () -> box.predecessor(f, b, 0)));
        all.add(new Refused("endOf", index(), () -> box.endOf(f, b)));
        all.add(new Refused("successor", index(), () -> box.successor(f, b, false)));
        all.add(new Refused("successor", index(), () -> box.successor(f, b, true)));
        all.add(new Refused("endValue", index(), () -> box.endValue(f, b)));
        all.add(new Refused("phis", index(), () -> box.phis(f, b)));
        all.add(new Refused("phiGives", index(), () -> box.phiGives(f, b, 0)));
        all.add(new Refused("phiTakes", index(), () -> box.phiTakes(f, b, 0, 0)));
        all.add(new Refused("steps", index(), () -> box.steps(f, b)));
        all.add(new Refused("kindOf", index(), () -> box.kindOf(f, b, 0)));
        all.add(new Refused("gives", index(), () -> box.gives(f, b, 0)));
        all.add(new Refused("leftOf", index(), () -> box.leftOf(f, b, 0)));
        all.add(new Refused("rightOf", index(), () -> box.rightOf(f, b, 0)));
        all.add(new Refused("codeKind", index(), () -> box.codeKind(f, b)));
        all.add(new Refused("codeGives", index(), () -> box.codeGives(f, b)));
        all.add(new Refused("codeLeft", index(), () -> box.codeLeft(f, b)));
        all.add(new Refused("codeRight", index(), () -> box.codeRight(f, b)));
    }

    private static void addParts(List<Refused> all, Gearbox box, int wrong) {
        all.add(new Refused("predecessor", index(), () -> box.predecessor(0, 1, wrong)));
        all.add(new Refused("phiGives", index(), () -> box.phiGives(0, 1, wrong)));
        all.add(new Refused("phiTakes", index(), () -> box.phiTakes(0, 1, wrong, 0)));
        all.add(new Refused("phiTakes", index(), () -> box.phiTakes(0, 1, 0, wrong)));
        all.add(new Refused("kindOf", index(), () -> box.kindOf(0, 0, wrong)));
        all.add(new Refused("gives", index(), () -> box.gives(0, 0, wrong)));
        all.add(new Refused("leftOf", index(), () -> box.leftOf(0, 0, wrong)));
        all.add(new Refused("rightOf", index(), () -> box.rightOf(0, 0, wrong)));
    }

    private static void changesNothing() {
        check.says("A method that throws an exception changes nothing.");
        for (int state = 0; state < 5; state++) {
            Gearbox box = new Gearbox();
            if (state > 0) {
                Tape.load(box, "fun f(a,b){while b{var t=a%b;a=b;b=t;}[3]=a;return a/(b+1);}fun g(){}");
            }
            if (state > 1) {
                box.run(1, 0, 12, 18, 0, 0);
            }
            if (state > 2) {
                box.allocate(3);
                box.settle();
            }
            if (state > 3) {
                Tape.load(box, "fun f(){nobody();}");
            }
            Tape.put(box, ON_TAPE);
            String before = Dump.all(box);
            int place = box.errorAt();
            long digest = box.digest();
            for (Refused one : refused(box)) {
                check.raises(one.name(), one.due(), one.call());
                check.same("digest behind " + one.name(), box.digest(), digest);
            }
            if (state > 0) {
                check.raises("way 3", argument(), () -> box.run(3, 0, 1, 2, 3, 4));
                check.raises("differences", argument(), () -> box.differences(0, 0, 6));
                check.raises("differences", argument(), () -> box.differences(0, 1, 0));
            }
            if (state > 0 && state < 3) {
                check.raises("run of the code", state(), () -> box.run(2, 0, 1, 2, 3, 4));
            }
            check.same("all", Dump.all(box), before);
            check.same("errorAt", box.errorAt(), place);
            check.same("digest", box.digest(), digest);
            // The tape is as long as it was, and what was on it is there.
            check.raises("trim to one more", argument(), () -> box.trim(ON_TAPE.length() + 1));
            check.same("load of the tape", box.load(), 0);
            box.run(0, 0, 0, 0, 0, 0);
            check.same("result of what was on the tape", box.result(), 77);
        }
        // A feed that is refused appends nothing, not even what there is room for.
        Gearbox full = new Gearbox();
        Tape.put(full, " ".repeat(1181 - ON_TAPE.length()) + ON_TAPE);
        check.raises("feed", state(), () -> full.feed(0, 0, 0, 0, 0));
        check.raises("trim to one more", argument(), () -> full.trim(1182));
        check.same("load of the tape", full.load(), 0);
    }

    private static void firstException() {
        check.says("If several exceptions apply, the one that is named first is thrown.");
        Gearbox none = new Gearbox();
        Gearbox box = Tape.with("fun f(){}");
        // run: no such function, then no such way, then no code.
        check.refuses("run without a program", none, index(), () -> none.run(3, 0, 0, 0, 0, 0));
        check.refuses("run without a program", none, index(), () -> none.run(2, 0, 0, 0, 0, 0));
        for (int f : new int[] {-1, 1, LEAST, MOST}) {
            check.refuses("run of " + f, box, index(), () -> box.run(3, f, 0, 0, 0, 0));
            check.refuses("run of " + f, box, index(), () -> box.run(-1, f, 0, 0, 0, 0));
            check.refuses("run of " + f, box, index(), () -> box.run(2, f, 0, 0, 0, 0));
        }
        check.refuses("run of way 3", box, argument(), () -> box.run(3, 0, 0, 0, 0, 0));
        check.refuses("run of way -1", box, argument(), () -> box.run(-1, 0, 0, 0, 0, 0));
        check.refuses("run of way 2", box, state(), () -> box.run(2, 0, 0, 0, 0, 0));
        // allocate: no such number, then no program.
        check.refuses("allocate(2)", none, argument(), () -> none.allocate(2));
        check.refuses("allocate(9)", none, argument(), () -> none.allocate(9));
        check.refuses("allocate(3)", none, state(), () -> none.allocate(3));
        check.refuses("allocate(8)", none, state(), () -> none.allocate(8));
        // differences: no such function, then no such range.
        check.refuses("differences", none, index(), () -> none.differences(0, 1, 0));
        check.refuses("differences", box, index(), () -> box.differences(1, 1, 0));
        check.refuses("differences", box, argument(), () -> box.differences(0, 1, 0));
    }

    private static void without() {
        check.says("Creates a compiler without a program and without code, with an empty tape.");
        Gearbox box = new Gearbox();
        for (Refused one : refused(box)) {
            check.raises(one.name(), one.due(), one.call());
        }
        for (int f : new int[] {0, 1, 5}) {
            List<Refused> all = new ArrayList<>();
            addBlocks(all, box, f, 0);
            all.add(new Refused("blocks", index(), () -> box.blocks(f)));
            all.add(new Refused("lines", index(), () -> box.lines(f)));
            for (Refused one : all) {
                check.raises(one.name() + " of function " + f, one.due(), one.call());
            }
        }
        check.same("functions", box.functions(), 0);
        check.same("errorAt", box.errorAt(), -1);
        check.same("restore", box.restore(), 0);
        check.same("passes", box.fold() + box.same() + box.drop() + box.lift() + box.merge(), 0);
        check.same("settle", box.settle(), 1);
        check.same("outcome", box.outcome(), 0);
        check.same("result", box.result(), 0);
        check.same("stepsRun", box.stepsRun(), 0);
        check.isTrue("meanCode", box.meanCode() == 0.0);
        check.same("digest", box.digest(), new Gearbox().digest());
    }

    // ---- 512 calls

    private static void mostCalls() {
        check.says("An object is used for at most 512 calls after it has been made; what later calls answer is free.");
        // Refused ones count, too, and the last one is answered as the first one is.
        Gearbox box = new Gearbox();
        for (int n = 0; n < 511; n++) {
            check.raises("call " + n, argument(), () -> box.trim(1));
        }
        check.same("call 512", box.feed(0, 0, 0, 0, 0), 20);
        // 60 feeds and a load, eight times: 488 calls; then the last 24.
        String[] texts = {"a=a+1;", "if a{}", "while a{}", "a=a&&1;", "[a]=a;", "f(a);", "return a;", "a=-a;"};
        Gearbox many = new Gearbox();
        for (int n = 0; n < 8; n++) {
            String body = "fun f(a){" + texts[n].repeat(n < 4 ? 16 : 60) + "}";
            feedAll(many, body);
            check.same("load " + n, many.load(), 0);
            check.same("parameters", Tape.with(body).parametersOf(0), 1);
        }
        Gearbox fresh = Tape.with("fun f(a){" + texts[7].repeat(60) + "}");
        for (int n = 0; n < 7; n++) {
            check.same("allocate", many.allocate(3 + n % 6), fresh.allocate(3 + n % 6));
            check.same("settle", many.settle(), fresh.settle());
            check.same("run", many.run(2, 0, 5, 0, 0, 0), fresh.run(2, 0, 5, 0, 0, 0));
        }
        check.same("call 510", many.restore(), fresh.restore());
        check.same("call 511", many.fold(), fresh.fold());
        check.same("call 512", many.digest(), fresh.digest());
        // The longest programs, eight times: none leaves anything behind.
        Gearbox longest = new Gearbox();
        for (int n = 0; n < 8; n++) {
            String body = "fun f(a){return 0;" + ("a=a" + (n % 2 == 0 ? "&&a" : "||a").repeat(9) + ";").repeat(25) + "a=" + n + ";}fun g(x){"
                + "while x{x=x-" + n + ";}return x+" + n + ";}";
            feedAll(longest, body);
            check.same("load of a long program " + n, longest.load(), 0);
            check.same("digest of a long program " + n, longest.digest(), Tape.with(body).digest());
        }
        check.same("run of the last one", longest.run(0, 1, 14, 0, 0, 0), 0);
        check.same("its result", longest.result(), 7);
        // A program for each two calls: 256 of them.
        Gearbox small = new Gearbox();
        for (int n = 0; n < 256; n++) {
            // "fun f(){return 0;}" and two blanks, with another digit each time.
            small.feed(0x66756e20, 0x6628297b, 0x72657475, 0x726e2030 + n % 10, 0x3b7d2020);
            check.same("load " + n, small.load(), 0);
        }
        check.same("number of the last one", small.leftOf(0, 0, 0), 255 % 10);
    }

    /** Sixty feeds: a text, and blanks behind it. */
    private static void feedAll(Gearbox box, String text) {
        String all = text + " ".repeat(1200 - text.length());
        for (int at = 0; at < 1200; at += 20) {
            int[] words = new int[5];
            for (int n = 0; n < 20; n++) {
                words[n / 4] = words[n / 4] << 8 | all.charAt(at + n);
            }
            box.feed(words[0], words[1], words[2], words[3], words[4]);
        }
    }

    /** Any call with any numbers: it answers, or throws just what its row says, and then nothing has changed. */
    private static void anyArguments() throws IllegalAccessException {
        check.says("A method that throws an exception changes nothing.");
        Method[] face = Gearbox.class.getDeclaredMethods();
        face = Arrays.stream(face).filter(one -> Modifier.isPublic(one.getModifiers()))
            .sorted(Comparator.comparing(Method::getName)).toArray(Method[]::new);
        check.same("methods of the face", face.length, 48);
        int[] numbers = {0, 0, 0, 1, 1, 2, 3, 4, 5, 8, 9, 15, 16, 20, 59, 60, 249, 250, 1199, 1200, 1201, -1, LEAST, MOST};
        for (int seed = 0; seed < 60; seed++) {
            Random random = new Random(seed);
            Programs maker = new Programs(random);
            Gearbox box = new Gearbox();
            if (seed % 10 > 0) {
                String text = seed % 10 == 1 ? CodeBoundsTest.SEVENTEEN : maker.program(1 + random.nextInt(40), false);
                Tape.load(box, text.substring(0, Math.min(1200, text.length())));
            }
            for (int n = 0; n < 220; n++) {
                Method method = face[random.nextInt(face.length)];
                Object[] arguments = new Object[method.getParameterCount()];
                for (int k = 0; k < arguments.length; k++) {
                    boolean isTruth = method.getParameterTypes()[k] == boolean.class;
                    arguments[k] = isTruth ? (Object) random.nextBoolean() : (Object) numbers[random.nextInt(numbers.length)];
                }
                anyCall(box, method, arguments);
            }
        }
    }

    private static void anyCall(Gearbox box, Method method, Object[] arguments) throws IllegalAccessException {
        long before = box.digest();
        try {
            method.invoke(box, arguments);
        } catch (InvocationTargetException e) {
            Class<?> got = e.getCause().getClass();
            String what = method.getName() + Arrays.toString(arguments) + " throws " + got.getSimpleName();
            check.isTrue(what, Arrays.asList(method.getExceptionTypes()).contains(got));
            check.same("digest behind " + what, box.digest(), before);
        }
    }

    /** The dearest calls one object can get: none throws, and all go on answering the same. */
    private static void dearestCalls() {
        check.says("An object is used for at most 512 calls after it has been made; what later calls answer is free.");
        String loops = "fun f(a){" + "while a{".repeat(5) + "a=a-1;if a{continue;}if a{break;}" + "}".repeat(5)
            + "while a{if a{}if a{}}if a{a=a&&a;}return a;}";
        Gearbox box = new Gearbox();
        Tape.load(box, loops);
        int lines = box.allocate(3);
        int different = 0;
        for (int n = 0; n < 120; n++) {
            different += box.differences(0, -5, 0) + box.differences(0, 0, 5);
            check.same("allocate", box.allocate(3), lines);
            check.same("run", box.run(n % 3, 0, -1, 0, 0, 0), 2);
        }
        check.same("differences", different, 0);
        check.same("outcome", box.outcome(), 2);
        check.same("stepsRun", box.stepsRun(), 5000);
    }
}
