/** Sections 2 and 6 of the document and promises 42 to 49, sentence by sentence: at each bound, and one beyond it. */
public final class RunBoundsTest {
    private static final Check check = new Check("RunBoundsTest");
    private static final int LEAST = Integer.MIN_VALUE;
    private static final int MOST = Integer.MAX_VALUE;

    public static void main(String[] args) {
        wrapping();
        memory();
        order();
        shortCuts();
        truths();
        shifts();
        divisions();
        forks();
        ends();
        outcomes();
        mostSteps();
        whatComesFirst();
        mostCalls();
        ownRegisters();
        arguments();
        aborted();
        innermost();
        stepsOfTexts();
        stepsOfBlocks();
        stepsOfCode();
        runRefusals();
        latestRun();
        words();
        differences();
        differenceBounds();
        means();
        digests();
        check.end();
    }

    // ---- what all of these need

    private static Gearbox coded(String text, int registers) {
        Gearbox box = Tape.with(text);
        box.allocate(registers);
        return box;
    }

    /** Runs function 0 in all ways, with few registers and with many, as it is and settled. */
    private static void all(String text, int a, int b, int outcome, int result) {
        for (int n = 0; n < 4; n++) {
            Gearbox box = Tape.with(text);
            if (n > 1) {
                box.settle();
            }
            box.allocate(n % 2 == 0 ? 3 : 8);
            for (int way = 0; way < 3; way++) {
                String what = "run " + way + " of '" + text + "' with " + a + " and " + b;
                check.same(what, box.run(way, 0, a, b, 0, 0), outcome);
                check.same("outcome of " + what, box.outcome(), outcome);
                check.same("result of " + what, box.result(), result);
            }
        }
    }

    /** A number as a test. */
    private static String told(int n) {
        return n >= 0 && n < 1000000000 ? "" + n : "(" + (n >>> 16) + "<<16|" + (n & 65535) + ")";
    }

    /** What an operator gives: of arguments in all ways, and of numbers that fold and same make one of. */
    private static void sum(int x, String operator, int y, int due) {
        all("fun f(a,b){return a" + operator + "b;}", x, y, 0, due);
        String text = "fun f(){return " + told(x) + operator + told(y) + ";}";
        all(text, 0, 0, 0, due);
        Gearbox folded = Tape.with(text);
        folded.fold();
        isNumber("fold of " + text, folded, due);
        Gearbox joined = Tape.with(text);
        joined.same();
        isNumber("same of " + text, joined, due);
    }

    private static void isNumber(String what, Gearbox box, int due) {
        int step = givenBy(box);
        check.same(what + ": kind", box.kindOf(0, 0, step), 0);
        check.same(what, box.leftOf(0, 0, step), due);
    }

    /** The step that gives what the end of block 0 uses. */
    private static int givenBy(Gearbox box) {
        int step = 0;
        while (box.gives(0, 0, step) != box.endValue(0, 0)) {
            step++;
        }
        return step;
    }

    private static void minus(int x, int due) {
        all("fun f(a,b){return -a;}", x, 0, 0, due);
        all("fun f(a,b){return -" + told(x) + ";}", x, 0, 0, due);
    }

    // ---- numbers

    private static void wrapping() {
        check.says("ints have 32 bits and wrap around, as in Java.");
        sum(MOST, "+", 0, MOST);
        sum(MOST, "+", 1, LEAST);
        sum(MOST, "+", MOST, -2);
        sum(LEAST, "+", -1, MOST);
        sum(LEAST, "-", 0, LEAST);
        sum(LEAST, "-", 1, MOST);
        sum(MOST, "-", -1, LEAST);
        sum(0, "-", LEAST, LEAST);
        sum(-1, "-", LEAST, MOST);
        sum(46340, "*", 46340, 2147395600);
        sum(46341, "*", 46341, -2147479015);
        sum(65536, "*", 32767, 2147418112);
        sum(65536, "*", 32768, LEAST);
        sum(65536, "*", 65536, 0);
        sum(LEAST, "*", -1, LEAST);
        sum(LEAST, "*", 2, 0);
        sum(MOST, "*", MOST, 1);
        sum(999999999, "*", 999999999, 999999999 * 999999999);
        sum(1, "<<", 30, 1073741824);
        sum(1, "<<", 31, LEAST);
        sum(3, "<<", 31, LEAST);
        sum(LEAST, "<<", 1, 0);
        sum(LEAST, "&", -1, LEAST);
        sum(LEAST, "|", MOST, -1);
        sum(LEAST, "^", -1, MOST);
        minus(0, 0);
        minus(1, -1);
        minus(MOST, LEAST + 1);
        minus(LEAST, LEAST);
        minus(LEAST + 1, MOST);
    }

    private static void memory() {
        check.says("There is a memory of 16 words, 0 at the beginning of each run.");
        Gearbox box = coded("fun f(a,b){[a]=b+1;return ([0]+[1]+[2]+[3]+[4]+[5]+[6])+([7]+[8]+[9]+[10]+[11]+[12])+([13]+[14]"
            + "+[15]);}", 3);
        for (int place = 0; place < 16; place++) {
            for (int way = 0; way < 3; way++) {
                box.run(way, 0, place, 6, 0, 0);
                check.same("all words of run " + way, box.result(), 7);
                for (int other = 0; other < 16; other++) {
                    check.same("word " + other, box.word(other), other == place ? 7 : 0);
                }
            }
        }
        check.says("[ x ] is the word x & 15.");
        int[] places = {0, 1, 15, 16, 17, 31, 32, -1, -15, -16, -17, MOST, LEAST, LEAST + 1, 65535, 65536};
        Gearbox both = coded("fun f(a,b){[a]=b;[b]=[a]+1;return [a]*100+[b];}", 3);
        for (int place : places) {
            int due = place & 15;
            for (int way = 0; way < 3; way++) {
                box.run(way, 0, place, 4, 0, 0);
                check.same("word of [" + place + "]", box.word(due), 5);
                check.same("all words", box.result(), 5);
                // The same word by another number is read, and written again.
                both.run(way, 0, place, due, 0, 0);
                check.same("word that is written twice", both.word(due), due + 1);
                check.same("read twice", both.result(), (due + 1) * 101);
            }
        }
        all("fun f(){[15]=3;[16]=4;return [0-1]*10+[0];}", 0, 0, 0, 34);
    }

    private static void order() {
        String second = "fun g(x){[5]=[5]*10+x;return x;}";
        check.says("Tests are evaluated from the left to the right;");
        for (String operator : new String[] {"+", "-", "*", "/", "%", "&", "|", "^", "<<", ">>", "<", "==", "&&"}) {
            boolean isComparison = operator.equals("<") || operator.equals("==");
            isOrder("g(1)" + operator + "g(2)" + (isComparison ? "+" : operator) + "g(3)", 123);
        }
        isOrder("g(1)+g(2)*g(3)", 123);
        isOrder("g(1)*g(2)+g(3)", 123);
        isOrder("(g(1)+g(2))*(g(3)+g(4))", 1234);
        isOrder("h(g(1),g(2),g(3))", 123);
        isOrder("h(g(1),h(g(2),g(3),g(4)),g(5))", 12345);
        isOrder("[g(1)]+g(2)", 12);
        isOrder("g(1)+[g(2)]", 12);
        isOrder("g(1)-(-g(2))", 12);
        check.says("In [ x ] = y, x is evaluated ahead of y.");
        all("fun f(){[g(1)]=g(2);return [5];}" + second, 0, 0, 0, 12);
        all("fun f(){[[1]]=g(2);return [0]*100+[5];}" + second, 0, 0, 0, 202);
        // What is in the word changes as y is evaluated, but which word it is was known.
        all("fun f(){[[5]]=g(3);return [0]*100+[3];}" + second, 0, 0, 0, 300);
        all("fun f(){[1/0]=h();}fun h(){[1]=1;return 1;}", 0, 0, 1, 0);
    }

    private static void isOrder(String test, int due) {
        all("fun f(){var x=" + test + ";return [5];}fun g(x){[5]=[5]*10+x;return x;}fun h(x,y,z){return x+y+z;}", 0, 0, 0,
            due);
    }

    private static void shortCuts() {
        check.says("&& and || give 1 or 0, and evaluate the right side only if the left one is not 0 (&&) or is 0 (||);");
        int[] numbers = {0, 1, 2, -1, LEAST, MOST};
        for (int x : numbers) {
            for (int y : numbers) {
                all("fun f(a,b){return a&&b;}", x, y, 0, x != 0 && y != 0 ? 1 : 0);
                all("fun f(a,b){return a||b;}", x, y, 0, x != 0 || y != 0 ? 1 : 0);
            }
            all("fun f(a,b){var x=a&&g(b);return [5]*10+x;}fun g(b){[5]=1;return b;}", x, 7, 0, x != 0 ? 11 : 0);
            all("fun f(a,b){var x=a||g(b);return [5]*10+x;}fun g(b){[5]=1;return b;}", x, 7, 0, x != 0 ? 1 : 11);
            all("fun f(a,b){return a&&1/b;}", x, 0, x != 0 ? 1 : 0, 0);
            all("fun f(a,b){return a||1%b;}", x, 0, x != 0 ? 0 : 1, x != 0 ? 1 : 0);
        }
        all("fun f(a,b){return (a&&b)+(a||b)*10+(b&&a&&a)*100+(b||b||a)*1000;}", 6, 3, 0, 1111);
        all("fun f(a,b){return (a&&b&&1/b)+(a||b||1/b)*10;}", 6, 0, 0, 10);
    }

    private static void truths() {
        check.says("comparisons and ! give 1 or 0;");
        int[] numbers = {LEAST, LEAST + 1, -1, 0, 1, MOST - 1, MOST};
        for (int x : numbers) {
            for (int y : numbers) {
                sum(x, "<", y, x < y ? 1 : 0);
                sum(x, "<=", y, x <= y ? 1 : 0);
                sum(x, ">", y, x > y ? 1 : 0);
                sum(x, ">=", y, x >= y ? 1 : 0);
                sum(x, "==", y, x == y ? 1 : 0);
                sum(x, "!=", y, x != y ? 1 : 0);
            }
            all("fun f(a){return !a;}", x, 0, 0, x == 0 ? 1 : 0);
            all("fun f(a){return !(!a);}", x, 0, 0, x == 0 ? 0 : 1);
        }
    }

    private static void shifts() {
        check.says("shifts take the lowest five bits of the right side;");
        int[] places = {0, 1, 31, 32, 33, 63, 64, -1, -31, -32, -33, LEAST, MOST};
        int[] few = {0, 1, 31, 0, 1, 31, 0, 31, 1, 0, 31, 0, 31};
        for (int n = 0; n < places.length; n++) {
            sum(1, "<<", places[n], 1 << few[n]);
            sum(-3, "<<", places[n], -3 << few[n]);
            sum(MOST, ">>", places[n], MOST >> few[n]);
            sum(LEAST, ">>", places[n], LEAST >> few[n]);
        }
        sum(5, "<<", 32, 5);
        sum(5, "<<", 33, 10);
        sum(5, ">>", 32, 5);
        sum(5, ">>", 33, 2);
        check.says(">> keeps the sign;");
        sum(-1, ">>", 1, -1);
        sum(-1, ">>", 31, -1);
        sum(-8, ">>", 2, -2);
        sum(-7, ">>", 1, -4);
        sum(LEAST, ">>", 31, -1);
        sum(MOST, ">>", 30, 1);
        sum(MOST, ">>", 31, 0);
    }

    private static void divisions() {
        check.says("/ is cut towards 0, % has the sign of the left side;");
        sum(7, "/", 2, 3);
        sum(-7, "/", 2, -3);
        sum(7, "/", -2, -3);
        sum(-7, "/", -2, 3);
        sum(1, "/", 2, 0);
        sum(-1, "/", 2, 0);
        sum(0, "/", -3, 0);
        sum(7, "%", 2, 1);
        sum(-7, "%", 2, -1);
        sum(7, "%", -2, 1);
        sum(-7, "%", -2, -1);
        sum(-6, "%", 2, 0);
        sum(MOST, "%", LEAST, MOST);
        sum(LEAST, "%", MOST, -1);
        sum(LEAST, "/", MOST, -1);
        sum(MOST, "/", LEAST, 0);
        check.says("the least int / -1 is itself, and % -1 is 0.");
        sum(LEAST, "/", -1, LEAST);
        sum(LEAST, "%", -1, 0);
        sum(LEAST + 1, "/", -1, MOST);
        sum(LEAST + 1, "%", -1, 0);
        sum(MOST, "/", -1, LEAST + 1);
        sum(LEAST, "/", 1, LEAST);
        sum(LEAST, "/", LEAST, 1);
        sum(LEAST, "%", LEAST, 0);
        sum(5, "%", -1, 0);
        // By 0 there is no number: fold and same leave it, and a run ends.
        for (int x : new int[] {0, 1, -1, LEAST, MOST}) {
            for (String operator : new String[] {"/", "%"}) {
                all("fun f(a,b){return a" + operator + "b;}", x, 0, 1, 0);
                String text = "fun f(){return " + told(x) + operator + "0;}";
                all(text, 0, 0, 1, 0);
                Gearbox box = Tape.with(text);
                box.settle();
                check.same("kind of " + text, box.kindOf(0, 0, givenBy(box)), operator.equals("/") ? 4 : 5);
            }
        }
    }

    private static void forks() {
        check.says("if and while: 0 is false, all else is true.");
        for (int x : new int[] {0, 1, 2, -1, 256, 65536, LEAST, MOST}) {
            all("fun f(a){if a{return 1;}return 2;}", x, 0, 0, x != 0 ? 1 : 2);
            all("fun f(a){if a{return 1;}else{return 2;}}", x, 0, 0, x != 0 ? 1 : 2);
            all("fun f(a){while a{return 1;}return 2;}", x, 0, 0, x != 0 ? 1 : 2);
            all("fun f(){if " + told(x) + "{return 1;}return 2;}", 0, 0, 0, x != 0 ? 1 : 2);
            all("fun f(){while " + told(x) + "{return 1;}return 2;}", 0, 0, 0, x != 0 ? 1 : 2);
        }
        all("fun f(a){var s=0;while a{a=a-1;s=s+10;}return s+a;}", 3, 0, 0, 30);
    }

    private static void ends() {
        check.says("A function whose end is reached returns 0.");
        all("fun f(){}", 5, 5, 0, 0);
        all("fun f(a){}", 5, 5, 0, 0);
        all("fun f(a){a=7;[1]=7;}", 5, 5, 0, 0);
        all("fun f(a){if a{return 7;}}", 0, 0, 0, 0);
        all("fun f(a){if a{return 7;}}", 1, 0, 0, 7);
        all("fun f(a){while a{a=a-1;}}", 3, 0, 0, 0);
        all("fun f(a){return g(a)+1;}fun g(a){a=7;}", 3, 0, 0, 1);
        all("fun f(a){return 3;a=a/0;}", 3, 0, 0, 3);
    }

    // ---- outcomes

    private static final String OUTCOMES = "A run ends with an outcome: 0, it has returned; 1, / or % by 0; 2, a step more than "
        + "5000; 3, a 9th call in each other (the function that is run is the first one); what comes first counts.";

    private static void outcomes() {
        check.says(OUTCOMES);
        all("fun f(){return 7;}", 0, 0, 0, 7);
        all("fun f(a,b){return a/b;}", 7, 1, 0, 7);
        all("fun f(a,b){return a/b;}", 7, 0, 1, 0);
        all("fun f(a,b){return a%b;}", 7, 0, 1, 0);
        all("fun f(a,b){[1]=a/b;}", 7, 0, 1, 0);
        all("fun f(a,b){g(a/b);return 1;}fun g(a){}", 7, 0, 1, 0);
        all("fun f(a,b){return g(a,b)+1;}fun g(a,b){return a%b;}", 7, 0, 1, 0);
        all("fun f(){while 1{}}", 0, 0, 2, 0);
        all("fun f(){return f();}", 0, 0, 3, 0);
        // What was done ahead of the end stays in memory.
        Gearbox box = coded("fun f(a,b){[1]=1;[2]=a/b;[3]=3;return 4;}", 3);
        for (int way = 0; way < 3; way++) {
            box.run(way, 0, 1, 0, 0, 0);
            check.same("word 1", box.word(1), 1);
            check.same("word 2", box.word(2), 0);
            check.same("word 3", box.word(3), 0);
        }
    }

    // Each makes a step more than the one ahead of it, in each way.
    private static final String[] MORE = {"", "[1]=1;", "[1]=[1];", "[1]=[[1]];", "[1]=1;[1]=1;", "[1]=1;[1]=[1];",
        "[1]=[1];[1]=[1];"};

    /**
     * Runs a loop of so many rounds, and what stands behind it, till steps are just as many as they may be, and more: the
     * outcome is that of the end while there are at most 5000 steps, and 2 if there are more. Behind the last of some steps,
     * by which `late` are still to come, word 2 is 9.
     */
    private static void upTo(String end, int outcome, int result, int late) {
        for (int way = 0; way < 3; way++) {
            boolean[] seen = new boolean[12];
            for (int extra = 1; extra < MORE.length; extra++) {
                Gearbox box = coded("fun f(a){" + MORE[extra] + "while a{a=a-1;}" + end, 8);
                box.run(way, 0, 10, 0, 0, 0);
                int few = box.stepsRun();
                check.same("outcome of 10 rounds", box.outcome(), outcome);
                box.run(way, 0, 11, 0, 0, 0);
                int round = box.stepsRun() - few;
                for (int rounds = 10 + (4994 - few) / round; few + round * (rounds - 10) <= 5005; rounds++) {
                    int steps = few + round * (rounds - 10);
                    String what = "run " + way + " of " + steps + " steps with " + end;
                    boolean isLong = steps > 5000;
                    check.same(what, box.run(way, 0, rounds, 0, 0, 0), isLong ? 2 : outcome);
                    check.same("outcome of " + what, box.outcome(), isLong ? 2 : outcome);
                    check.same("result of " + what, box.result(), isLong ? 0 : result);
                    check.same("stepsRun of " + what, box.stepsRun(), Math.min(steps, 5000));
                    if (late > 0) {
                        check.same("word 2 of " + what, box.word(2), steps - late <= 5000 ? 9 : 0);
                    }
                    if (steps >= 4995 && steps < 5005) {
                        seen[steps - 4995] = true;
                    }
                }
            }
            for (int steps = 4998; steps <= 5003; steps++) {
                check.isTrue("there is a run " + way + " of " + steps + " steps with " + end, seen[steps - 4995]);
            }
        }
    }

    private static void mostSteps() {
        check.says("2, a step more than 5000;");
        check.says("A step is counted ahead of what it does; the 5001st ends the run with the outcome 2.");
        upTo("return 7;}", 0, 7, 0);
        upTo("}", 0, 0, 0);
        upTo("return g(3,4);}fun g(a,b){return a*b;}", 0, 12, 0);
        upTo("if a{return 1;}else{return 2;}}", 0, 2, 0);
        upTo("[2]=9;return 7;}", 0, 7, 2);
        check.says("Returns how many steps the latest run had (5000 if its outcome was 2); 0 ahead of all.");
        check.same("stepsRun ahead of all", new Gearbox().stepsRun(), 0);
        Gearbox box = coded("fun f(a){while a{}return 1;}", 3);
        for (int way = 0; way < 3; way++) {
            box.run(way, 0, 1, 0, 0, 0);
            check.same("steps of a run without an end", box.stepsRun(), 5000);
            box.run(way, 0, 0, 0, 0, 0);
            check.isTrue("steps of one with an end", box.stepsRun() > 0 && box.stepsRun() < 20);
        }
    }

    private static void whatComesFirst() {
        check.says("what comes first counts.");
        upTo("return 1/a;}", 1, 0, 0);
        upTo("return 1%a;}", 1, 0, 0);
        upTo("return g();}fun g(){return g();}", 3, 0, 0);
        upTo("return g(1);}fun g(a){return g(a+1);}", 3, 0, 0);
        // A division by 0 in an argument of the call that would be the ninth; and one behind it.
        String deep = "fun f(a,b){if a==8{return f(1/b,2);}return f(a+1,b);}";
        all(deep, 1, 0, 1, 0);
        all(deep, 1, 1, 3, 0);
        all("fun f(a,b){if a==8{return f(1,2)+1/b;}return f(a+1,b);}", 1, 0, 3, 0);
        all("fun f(a,b){return 1/b+g();}fun g(){return g();}", 1, 0, 1, 0);
        all("fun f(a,b){return g()+1/b;}fun g(){return g();}", 1, 0, 3, 0);
        all("fun f(a,b){while 1{}return 1/b;}", 1, 0, 2, 0);
        all("fun f(a,b){var x=1/b;while 1{}}", 1, 0, 1, 0);
    }

    private static void mostCalls() {
        check.says("3, a 9th call in each other (the function that is run is the first one);");
        for (int calls = 1; calls <= 12; calls++) {
            int outcome = calls <= 8 ? 0 : 3;
            all("fun f(a){if a>1{return f(a-1)+1;}return 1;}", calls, 0, outcome, outcome == 0 ? calls : 0);
            // Two functions that call each other.
            all("fun f(a){if a>1{return g(a-1)+1;}return 1;}fun g(b){if b>1{return f(b-1)+1;}return 1;}", calls, 0, outcome,
                outcome == 0 ? calls : 0);
        }
        // As statements, and without arguments.
        all("fun f(a){[1]=[1]+1;if a>[1]{g();}return [1];}fun g(){[1]=[1]+1;if [2]<6{[2]=[2]+1;g();}}", 2, 0, 0, 8);
        all("fun f(a){[1]=[1]+1;if a>[1]{g();}return [1];}fun g(){[1]=[1]+1;if [2]<7{[2]=[2]+1;g();}}", 2, 0, 3, 0);
        // Calls one behind the other, and in arguments, are not in each other.
        all("fun f(){var s=0;while s<40{s=s+g();}return s;}fun g(){return 1;}", 0, 0, 0, 40);
        all("fun f(a){return g(g(g(g(g(g(a))))));}fun g(a){return a+1;}", 5, 0, 0, 11);
        all("fun f(a){var x=g(g(g(g(g(a)))));return g(g(g(g(g(x)))));}fun g(a){return a+1;}", 5, 0, 0, 15);
        // As many as the steps allow, as statements, whose values nothing uses, and in tests.
        all("fun f(a){while a{a=a-1;g(a);}return 7;}fun g(a){[1]=a;}", 380, 0, 0, 7);
        all("fun f(a){while a{a=a-1;g();}return 7;}fun g(){}", 620, 0, 0, 7);
        all("fun f(a){var s=0;while a{a=a-1;s=s+g();}return s;}fun g(){}", 480, 0, 0, 0);
        // Behind calls that returned, as many may be made again.
        all("fun f(a){return g(7)+g(7)+g(7);}fun g(a){if a>1{return g(a-1)+1;}return 1;}", 0, 0, 0, 21);
        all("fun f(a){return g(7)+g(7)+g(8);}fun g(a){if a>1{return g(a-1)+1;}return 1;}", 0, 0, 3, 0);
        check.says("A call that would be the 9th in each other ends it with the outcome 3, behind its arguments.");
        Gearbox box = coded("fun f(a){[a]=a;return f(h(a)+1);}fun h(a){[8]=[8]+1;return a;}", 3);
        Gearbox own = coded("fun f(a,b){[a]=a;return f(a+1,[9]+1)+1;}", 3);
        for (int way = 0; way < 3; way++) {
            check.same("run " + way, box.run(way, 0, 1, 0, 0, 0), 3);
            check.same("word 7", box.word(7), 7);
            check.same("word 8: seven calls of h, and that of the eighth f", box.word(8), 8);
            check.same("run " + way, own.run(way, 0, 1, 0, 0, 0), 3);
            check.same("word 8: the eighth call", own.word(8), 8);
            check.same("word 9: no ninth call", own.word(9), 0);
        }
        // Its arguments are evaluated, and their steps counted, but none of its own.
        Gearbox text = Tape.with("fun f(a){return f(a+1);}");
        text.run(0, 0, 1, 0, 0, 0);
        check.same("steps of a text", text.stepsRun(), 8 * 5);
        text.run(1, 0, 1, 0, 0, 0);
        check.same("steps of blocks", text.stepsRun(), 8 * 5);
        text.allocate(8);
        text.run(2, 0, 1, 0, 0, 0);
        check.same("steps of code", text.stepsRun(), 8 * 5);
    }

    // ---- section 6

    private static void ownRegisters() {
        check.says("Each call of a function has registers and slots of its own, 0 at first; memory is the same for all.");
        String many = "fun f(a,b){if a<1{return 0;}var c=a*3;var d=a*5;var e=a*7;var g=b+a;var h=f(a-1,b);"
            + "[a]=[a+1]+1;return a+b+c+d+e+g+h;}";
        for (int registers = 3; registers <= 8; registers++) {
            Gearbox box = coded(many, registers);
            for (int way = 0; way < 3; way++) {
                box.run(way, 0, 4, 2, 0, 0);
                // a + b + 15 a + a + b for each a from 1 to 4.
                check.same("result with " + registers, box.result(), 17 * 10 + 4 * 4);
                for (int place = 1; place <= 4; place++) {
                    check.same("word " + place, box.word(place), place == 0 ? 0 : 1);
                }
            }
        }
        check.isTrue("there are slots", coded(many, 3).slots(0) > 0);
        all("fun f(){g(3);return [2]*10+g(0);}fun g(x){var y=[2];[2]=x;return y;}", 0, 0, 0, 33);
    }

    private static void arguments() {
        check.says("A parameter is the argument of the call; the function that is run has the arguments that are told, as many "
            + "as it has parameters.");
        String[] names = {"", "a", "a,b", "a,b,c", "a,b,c,d"};
        String[] sums = {"9", "a", "a*10+b", "a*100+b*10+c", "a*1000+b*100+c*10+d"};
        int[] due = {9, 1, 12, 123, 1234};
        StringBuilder text = new StringBuilder();
        for (int n = 0; n <= 4; n++) {
            text.append("fun f").append(n).append('(').append(names[n]).append("){return ").append(sums[n]).append(";}");
        }
        text.append("fun g(){return f0()+f1(1)+f2(1,2)+f3(1,2,3)+f4(1,2,3,4);}");
        Gearbox box = coded(text.toString(), 3);
        for (int way = 0; way < 3; way++) {
            for (int n = 0; n <= 4; n++) {
                box.run(way, n, 1, 2, 3, 4);
                check.same(n + " arguments", box.result(), due[n]);
            }
            box.run(way, 5, 7, 7, 7, 7);
            check.same("all of them", box.result(), 9 + 1 + 12 + 123 + 1234);
        }
        Gearbox edges = coded("fun f(a,b,c,d){[0]=a;[1]=b;[2]=c;[3]=d;}", 3);
        for (int way = 0; way < 3; way++) {
            edges.run(way, 0, LEAST, MOST, -1, 0);
            check.same("the least", edges.word(0), LEAST);
            check.same("the greatest", edges.word(1), MOST);
            check.same("-1", edges.word(2), -1);
            check.same("0", edges.word(3), 0);
        }
    }

    private static void text(String text, int due) {
        Gearbox box = Tape.with(text);
        box.run(0, 0, 0, 0, 0, 0);
        check.same("steps of '" + text + "'", box.stepsRun(), due);
    }

    private static void stepsOfTexts() {
        check.says("A text: each statement that begins is a step (a while once), and each number, name, operator, call and [ ] "
            + "that begins to be evaluated (so a call as a statement is two, and the name or the [ ] on the left of a = is "
            + "none, but for the test in the [ ]).");
        text("fun f(){}", 0);
        text("fun f(a){}", 0);
        text("fun f(){return 1;}", 2);
        text("fun f(){return (((1)));}", 2);
        text("fun f(a){return a;}", 2);
        text("fun f(){return -1;}", 3);
        text("fun f(){return !1;}", 3);
        text("fun f(){return 1+2;}", 4);
        text("fun f(){return 1+2*3;}", 6);
        text("fun f(){return 1<2;}", 4);
        text("fun f(){return [1];}", 3);
        text("fun f(){return [[1]];}", 4);
        text("fun f(){var a=1;}", 2);
        text("fun f(a){a=1;}", 2);
        text("fun f(a){a=a;}", 2);
        text("fun f(){[1]=2;}", 3);
        text("fun f(){[1+2]=3;}", 5);
        text("fun f(){[[1]]=3;}", 4);
        text("fun f(){g();}fun g(){}", 2);
        text("fun f(){g(1,2);}fun g(a,b){}", 4);
        text("fun f(){return g();}fun g(){}", 2);
        text("fun f(){return g(1);}fun g(a){return a;}", 3 + 2);
        text("fun f(){if 1{}}", 2);
        text("fun f(){if 0{}}", 2);
        text("fun f(){if 0{}else{[1]=1;}}", 2 + 3);
        text("fun f(){if 1{}else{[1]=1;}}", 2);
        // Only what is evaluated counts.
        text("fun f(){return 0&&1;}", 3);
        text("fun f(){return 1&&1;}", 4);
        text("fun f(){return 1||1;}", 3);
        text("fun f(){return 0||1;}", 4);
        text("fun f(){return 1&&0&&1;}", 5);
        text("fun f(){return 0&&1||1;}", 5);
        // A while once, its test each time.
        text("fun f(){while 0{}}", 2);
        text("fun f(a){while a<1{a=a+1;}}", 1 + 2 * 3 + 4);
        text("fun f(a){while a<2{a=a+1;}}", 1 + 3 * 3 + 2 * 4);
        text("fun f(a){while a<2{a=a+1;continue;}}", 1 + 3 * 3 + 2 * 5);
        text("fun f(){while 1{break;}}", 1 + 1 + 1);
        text("fun f(a){while a<2{a=a+1;while 0{}}}", 1 + 3 * 3 + 2 * (4 + 2));
        text("fun f(){return 1;[1]=1;}", 2);
    }

    private static void steps(String text, int way, int a, int due) {
        Gearbox box = coded(text, 8);
        box.run(way, 0, a, 0, 0, 0);
        check.same("steps of run " + way + " of '" + text + "' with " + a, box.stepsRun(), due);
    }

    private static void stepsOfBlocks() {
        check.says("Blocks: each phi, step and end is one; the phis of a block get their values at once, from the block from "
            + "which one comes.");
        steps("fun f(){}", 1, 0, 2);
        steps("fun f(a){}", 1, 0, 3);
        steps("fun f(a){return a;}", 1, 0, 2);
        steps("fun f(a){if a{}}", 1, 0, 2 + 1 + 2);
        steps("fun f(a){if a{}}", 1, 1, 2 + 1 + 2);
        steps("fun f(a){if a{a=2;}return a;}", 1, 1, 2 + 2 + 2);
        steps("fun f(a){if a{a=2;}return a;}", 1, 0, 2 + 1 + 2);
        steps("fun f(a){var b=a;if a{a=2;b=3;}return a+b;}", 1, 0, 2 + 1 + 2 + 1 + 1);
        steps("fun f(a){g(a,a);}fun g(a,b){}", 1, 0, 1 + 2 + 1 + 1 + 1 + 4);
        // Two that change places, again and again.
        all("fun f(a,b){var n=5;while n{var t=a;a=b;b=t;n=n-1;}return a*10+b;}", 1, 2, 0, 21);
        all("fun f(a,b){var n=6;while n{var t=a;a=b;b=t;n=n-1;}return a*10+b;}", 1, 2, 0, 12);
        all("fun f(a,b){var c=3;var n=4;while n{var t=a;a=b;b=c;c=t;n=n-1;}return a*100+b*10+c;}", 1, 2, 0, 231);
    }

    private static void stepsOfCode() {
        check.says("Code: each line is one.");
        steps("fun f(){}", 2, 0, 2);
        steps("fun f(a){}", 2, 0, 3);
        steps("fun f(a){return a;}", 2, 0, 2);
        steps("fun f(a){if a{[1]=2;}}", 2, 1, 2 + 3 + 1 + 2);
        steps("fun f(a){if a{[1]=2;}}", 2, 0, 2 + 2);
        Gearbox straight = coded("fun f(a,b){[a]=b*a-b;return [b]%7+1;}", 3);
        straight.run(2, 0, 5, 6, 0, 0);
        check.same("steps of a code without jumps", straight.stepsRun(), straight.lines(0));
    }

    private static void innermost() {
        check.says("break is an end 22 to X, continue one to H, of the innermost while;");
        // In the second loop, in an inner one, behind an inner one, and in the second function.
        all("fun f(a,b){while a{a=a-1;}while b{b=b-1;if b==2{continue;}a=a*10+b;}return a;}", 3, 5, 0, 4310);
        all("fun f(a,b){var s=0;while a{a=a-1;var c=b;while c{c=c-1;if c==1{continue;}if c==a{break;}s=s*10+c;}"
            + "if a==1{continue;}s=s*10+9;}return s;}", 3, 4, 0, nested(3, 4));
        all("fun f(a,b){while a{a=a-1;}return g(b);}fun g(b){var s=0;while b{b=b-1;if b%2{continue;}if b<2{break;}s=s*10+b;}"
            + "return s;}", 3, 9, 0, 8642);
    }

    /** What the second of these functions does. */
    private static int nested(int first, int b) {
        int s = 0;
        for (int a = first - 1; a >= 0; a--) {
            for (int c = b - 1; c >= 0; c--) {
                if (c == 1) {
                    continue;
                }
                if (c == a) {
                    break;
                }
                s = s * 10 + c;
            }
            if (a == 1) {
                continue;
            }
            s = s * 10 + 9;
        }
        return s;
    }

    /** Runs that end in the middle of tests and calls leave nothing behind for those that come. */
    private static void aborted() {
        check.says("Each call of a function has registers and slots of its own, 0 at first; memory is the same for all.");
        Gearbox box = coded("fun f(a,b){return 1+(2+(3+(4+(5+g(6,7,8,9/a+h(b))))));}fun g(a,b,c,d){return a+b+c+d;}"
            + "fun h(b){if b{return h(b-1);}return 0;}", 3);
        int[] due = {0, 15 + 6 + 7 + 8 + 9};
        for (int n = 0; n < 160; n++) {
            check.same("run that divides by 0", box.run(n % 3, 0, 0, 0, 0, 0), 1);
            check.same("run with too many calls", box.run(n % 3, 0, 1, 50, 0, 0), 3);
            check.same("run", box.run(n % 3, 0, 1, 2, 0, 0), due[0]);
            check.same("result", box.result(), due[1]);
        }
    }

    // ---- promises

    private static void runRefusals() {
        Gearbox none = new Gearbox();
        Gearbox box = coded("fun f(a){[2]=a;return a;}fun g(){}", 3);
        box.run(0, 0, 4, 0, 0, 0);
        Gearbox bare = Tape.with("fun f(a){[2]=a;return a;}");
        check.says("Throws `IndexOutOfBoundsException` if there is no such function");
        int[] ways = {0, 1, 2, -1, 3, LEAST, MOST};
        for (int way : ways) {
            for (int f : new int[] {-1, 2, LEAST, MOST}) {
                check.refuses("run " + way + " of " + f, box, IndexOutOfBoundsException.class, () -> box.run(way, f, 1, 2, 3, 4));
                check.refuses("run " + way + " of " + f, bare, IndexOutOfBoundsException.class,
                    () -> bare.run(way, f, 1, 2, 3, 4));
            }
            for (int f : new int[] {0, 1, -1}) {
                check.refuses("run " + way + " of " + f, none, IndexOutOfBoundsException.class,
                    () -> none.run(way, f, 1, 2, 3, 4));
            }
        }
        check.says("Throws `IllegalArgumentException` if way is not 0 to 2");
        for (int way : new int[] {-1, 3, LEAST, MOST}) {
            check.refuses("run " + way, box, IllegalArgumentException.class, () -> box.run(way, 0, 1, 2, 3, 4));
            check.refuses("run " + way, bare, IllegalArgumentException.class, () -> bare.run(way, 0, 1, 2, 3, 4));
        }
        check.says("Throws `IllegalStateException` if way is 2, and there is no code");
        check.refuses("run of code", bare, IllegalStateException.class, () -> bare.run(2, 0, 1, 2, 3, 4));
        check.same("run of the text without code", bare.run(0, 0, 1, 0, 0, 0), 0);
        check.same("run of the blocks without code", bare.run(1, 0, 1, 0, 0, 0), 0);
        bare.allocate(3);
        check.same("run of code", bare.run(2, 0, 1, 0, 0, 0), 0);
        bare.restore();
        check.refuses("run of code behind restore", bare, IllegalStateException.class, () -> bare.run(2, 0, 1, 2, 3, 4));
        bare.allocate(3);
        Tape.load(bare, "fun f(){}");
        check.refuses("run of code behind load", bare, IllegalStateException.class, () -> bare.run(2, 0, 1, 2, 3, 4));
        check.same("the last function", box.run(2, 1, 0, 0, 0, 0), 0);
    }

    private static void latestRun() {
        Gearbox box = coded("fun f(a,b){[1]=a;if a==3{return f(a,b);}while a==2{}return a/b;}", 3);
        check.says("Returns the outcome of the latest run; 0 ahead of all.");
        check.same("outcome ahead of all", new Gearbox().outcome(), 0);
        check.same("outcome ahead of the first run", box.outcome(), 0);
        check.says("Returns what the function of the latest run returned; 0 if its outcome was not 0, and ahead of all.");
        check.same("result ahead of all", new Gearbox().result(), 0);
        check.same("result ahead of the first run", box.result(), 0);
        for (int way = 0; way < 3; way++) {
            int[][] runs = {{9, 2, 0, 4}, {9, 0, 1, 0}, {-9, 2, 0, -4}, {2, 1, 2, 0}, {LEAST, -1, 0, LEAST}, {3, 1, 3, 0},
                {0, 5, 0, 0}};
            for (int[] run : runs) {
                check.same("run", box.run(way, 0, run[0], run[1], 0, 0), run[2]);
                check.same("outcome", box.outcome(), run[2]);
                check.same("result", box.result(), run[3]);
                check.same("word 1", box.word(1), run[0]);
                check.same("word 2", box.word(2), 0);
            }
        }
    }

    private static void words() {
        check.says("Throws `IndexOutOfBoundsException` if place is not 0 to 15");
        Gearbox none = new Gearbox();
        Gearbox box = coded("fun f(){[0]=10;[15]=25;[7]=17;}", 3);
        box.run(0, 0, 0, 0, 0, 0);
        for (int place : new int[] {-1, 16, 17, 31, LEAST, MOST}) {
            check.refuses("word " + place, none, IndexOutOfBoundsException.class, () -> none.word(place));
            check.refuses("word " + place, box, IndexOutOfBoundsException.class, () -> box.word(place));
        }
        check.says("Returns the word of memory at this place behind the latest run; 0 ahead of all.");
        for (int place = 0; place < 16; place++) {
            check.same("word " + place + " ahead of all", none.word(place), 0);
            check.same("word " + place, box.word(place), place == 0 || place == 7 || place == 15 ? place + 10 : 0);
        }
    }

    private static void differences() {
        check.says("Runs a function in all ways (code only if there is any), with x, low, high and x as arguments, for each x "
            + "from low to high; behind that all is as if nothing had been run (nothing is changed).");
        String text = "fun f(a,b,c,d){[a]=b;if a-d{return 1/0;}if a==b{return g(1/(a-7));}return b*c+[c];}fun g(x){return x;}"
            + "fun h(){return h();}fun i(){while 1{}}";
        for (int state = 0; state < 3; state++) {
            Gearbox box = Tape.with(text);
            if (state == 1) {
                box.settle();
            }
            if (state > 0) {
                box.allocate(3 + state);
            }
            isUntouched(box, 0, -2, 3);
            int[][] runs = {{0, 3, 4}, {0, 7, 7}, {2, 0, 0}, {3, 0, 0}};
            for (int[] run : runs) {
                box.run(state, run[0], run[1], run[2], 5, run[1]);
                isUntouched(box, 0, 6, 8);
                isUntouched(box, 1, -2, 3);
                isUntouched(box, 2, -2, 3);
                isUntouched(box, 3, -2, 3);
            }
        }
        check.says("Returns for how many x two of these runs end with different outcomes, results or memories, though none of "
            + "them has the outcome 2.");
        // The text makes 5 steps each round, and more than the code: for some x it alone is too long.
        Gearbox box = coded("fun f(a,b,c){var n=996+a-b;while n{n=n-1;}return a;}", 8);
        box.run(0, 0, 0, 0, 0, 0);
        check.same("the text of the least x", box.outcome(), 0);
        box.run(0, 0, 5, 0, 5, 5);
        check.same("the text of the greatest x", box.outcome(), 2);
        box.run(2, 0, 5, 0, 5, 5);
        check.same("the code of the greatest x", box.outcome(), 0);
        isUntouched(box, 0, 0, 5);
        // Two that are too long in all ways.
        isUntouched(coded("fun f(a){[a]=1;while 1{[a]=[a]+1;}}", 3), 0, 0, 5);
    }

    /** Differences are none, and leave all as it is. */
    private static void isUntouched(Gearbox box, int f, int low, int high) {
        String before = Dump.all(box);
        long digest = box.digest();
        check.same("differences of " + f + " from " + low + " to " + high, box.differences(f, low, high), 0);
        check.same("all behind differences", Dump.all(box), before);
        check.same("digest behind differences", box.digest(), digest);
    }

    private static void differenceBounds() {
        check.says("Throws `IllegalArgumentException` if high is less than low, or more than 5 greater (exactly, without a bound "
            + "of 32 bits)");
        Gearbox box = coded("fun f(a,b,c,d){[a]=d;return a+b*c;}", 3);
        int[] lows = {LEAST, LEAST + 1, -6, -5, -1, 0, 1, MOST - 6, MOST - 5, MOST - 4, MOST - 1, MOST};
        for (int low : lows) {
            for (long more = -3; more <= 8; more++) {
                long high = low + more;
                if (high < LEAST || high > MOST) {
                    // Beyond the ints: what is left of it in 32 bits is far away.
                    refused(box, low, (int) high);
                } else if (more < 0 || more > 5) {
                    refused(box, low, (int) high);
                } else {
                    isUntouched(box, 0, low, (int) high);
                }
            }
        }
        int[][] far = {{LEAST, MOST}, {MOST, LEAST}, {LEAST, 0}, {0, MOST}, {-1, MOST}, {0, LEAST}, {MOST, LEAST + 4},
            {MOST - 4, LEAST}, {1, LEAST}, {LEAST, -1}, {2000000000, -2000000000}, {-2000000000, 2000000000}};
        for (int[] pair : far) {
            refused(box, pair[0], pair[1]);
        }
        check.says("If several exceptions apply, the one that is named first is thrown.");
        for (int f : new int[] {-1, 1, LEAST, MOST}) {
            check.refuses("differences of " + f, box, IndexOutOfBoundsException.class, () -> box.differences(f, 0, 0));
            check.refuses("differences of " + f, box, IndexOutOfBoundsException.class, () -> box.differences(f, 1, 0));
            check.refuses("differences of " + f, box, IndexOutOfBoundsException.class, () -> box.differences(f, 0, 6));
        }
        Gearbox none = new Gearbox();
        check.refuses("differences without a program", none, IndexOutOfBoundsException.class, () -> none.differences(0, 0, 6));
    }

    private static void refused(Gearbox box, int low, int high) {
        check.refuses("differences from " + low + " to " + high, box, IllegalArgumentException.class,
            () -> box.differences(0, low, high));
    }

    private static void means() {
        check.says("Returns the mean of how many lines the functions have; 0 without code.");
        check.isTrue("meanCode without a program", new Gearbox().meanCode() == 0.0);
        // Each has a 0 and a return; with a parameter one line more.
        String[] functions = {"fun a(){}", "fun b(x){}", "fun c(){}", "fun d(x,y){}", "fun e(){}", "fun g(){}"};
        int[] lines = {2, 3, 2, 4, 2, 2};
        StringBuilder text = new StringBuilder();
        int all = 0;
        for (int n = 0; n < 6; n++) {
            text.append(functions[n]);
            all += lines[n];
            Gearbox box = Tape.with(text.toString());
            check.isTrue("meanCode without code", box.meanCode() == 0.0);
            check.same("lines", box.allocate(3), all);
            check.isTrue("meanCode of " + (n + 1), box.meanCode() == (double) all / (n + 1));
            box.settle();
            check.isTrue("meanCode behind settle", box.meanCode() == (double) all / (n + 1));
            box.restore();
            check.isTrue("meanCode behind restore", box.meanCode() == 0.0);
        }
    }

    private static void digests() {
        check.says("A number d starts with 58009; for each of the following numbers x, d becomes d * 31 + x, which wraps around "
            + "as a 64-bit integer:");
        long d = 58009;
        // No functions, no errorAt, and 0 for the outcome, the result, the steps and 16 words.
        d = d * 31;
        d = d * 31 - 1;
        for (int n = 0; n < 19; n++) {
            d = d * 31;
        }
        Gearbox box = new Gearbox();
        check.same("digest of a new object", box.digest(), d);
        box.load();
        check.same("digest with an error at 0", box.digest(), d + (long) Math.pow(31, 9) * (long) Math.pow(31, 10));
        Gearbox full = Tape.with("fun f(a){" + "if a{}".repeat(19) + "if a{return 1;}}");
        check.same("digest of 60 blocks", full.digest(), Dump.digest(full));
        full.allocate(3);
        full.run(2, 0, LEAST, 0, 0, 0);
        check.same("digest of 60 blocks with code", full.digest(), Dump.digest(full));
        full.settle();
        check.same("digest of what is settled", full.digest(), Dump.digest(full));
        Tape.load(full, "x");
        check.same("digest behind an error", full.digest(), Dump.digest(full));
        Gearbox six = Tape.with("fun a(){[1]=1<<31;}fun b(x){return -x;}fun c(x,y){while x{x=y;}}fun d(x){return x&&d(1);}"
            + "fun e(){}fun g(a,b,c,d){return a*a+(b*b+(c*c+d));}");
        six.allocate(3);
        check.isTrue("there are slots", six.slots(5) > 0);
        for (int f = 0; f < 6; f++) {
            six.run(f % 3, f, LEAST, MOST, 3, 4);
            check.same("digest of six functions", six.digest(), Dump.digest(six));
        }
        check.same("digest changes nothing", six.digest(), six.digest());
    }
}
