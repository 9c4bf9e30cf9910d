/** Promises 42 to 49: run, outcome, result, stepsRun, word, differences, meanCode, digest. */
public final class RunTest {
    private static final Check check = new Check("RunTest");

    public static void main(String[] args) {
        sums();
        steps();
        memory();
        outcomes();
        ends();
        arguments();
        wrong();
        differing();
        digests();
        check.end();
    }

    private static Gearbox coded(String text) {
        Gearbox box = Tape.with(text);
        box.allocate(3);
        return box;
    }

    /** Runs a program in all ways. */
    private static void all(String text, int a, int b, int outcome, int result) {
        Gearbox box = coded(text);
        for (int way = 0; way < 3; way++) {
            String what = "run " + way + " of '" + text + "' with " + a + " and " + b;
            check.same(what, box.run(way, 0, a, b, 0, 0), outcome);
            check.same("outcome of " + what, box.outcome(), outcome);
            check.same("result of " + what, box.result(), result);
        }
    }

    private static void sums() {
        int least = Integer.MIN_VALUE;
        int most = Integer.MAX_VALUE;
        all("fun f(a,b){return a+b;}", most, 1, 0, least);
        all("fun f(a,b){return a-b;}", least, 1, 0, most);
        all("fun f(a,b){return a*b;}", 65536, 65537, 0, 65536);
        all("fun f(a,b){return a/b;}", -7, 2, 0, -3);
        all("fun f(a,b){return a%b;}", -7, 2, 0, -1);
        all("fun f(a,b){return a%b;}", 7, -2, 0, 1);
        all("fun f(a,b){return a/b;}", least, -1, 0, least);
        all("fun f(a,b){return a%b;}", least, -1, 0, 0);
        all("fun f(a,b){return a<<b;}", 3, 33, 0, 6);
        all("fun f(a,b){return a<<b;}", 1, -1, 0, least);
        all("fun f(a,b){return a>>b;}", -8, 1, 0, -4);
        all("fun f(a,b){return a>>b;}", -8, 32, 0, -8);
        all("fun f(a,b){return a&b|a^b;}", 12, 10, 0, (12 & 10 | 12) ^ 10);
        all("fun f(a,b){return (a<b)+(a<=b)*10+(a>b)*100+(a>=b)*1000;}", 3, 3, 0, 1010);
        all("fun f(a,b){return (a<b)+(a<=b)*10+(a>b)*100+(a>=b)*1000;}", least, most, 0, 11);
        all("fun f(a,b){return (a==b)+(a!=b)*10;}", 4, 5, 0, 10);
        all("fun f(a,b){return -a+!b*100;}", 5, 0, 0, 95);
        all("fun f(a,b){return -a;}", least, 0, 0, least);
        all("fun f(a,b){return (a&&b)+(a||b)*10;}", 7, 0, 0, 10);
        all("fun f(a,b){return (a&&b)+(a||b)*10;}", 7, 9, 0, 11);
        // Only what is needed of the right side is evaluated.
        all("fun f(a,b){return a&&1/b;}", 0, 0, 0, 0);
        all("fun f(a,b){return a||1/b;}", 2, 0, 0, 1);
        all("fun f(a,b){return a-b-1;}", 10, 3, 0, 6);
        all("fun f(a,b){return 100/a/b;}", 10, 3, 0, 3);
        all("fun f(a,b){return a-b*2;}", 10, 3, 0, 4);
        all("fun f(a,b){return a|b==3;}", 1, 2, 0, 1);
        all("fun f(a,b){if a{return 1;}else{if b{return 2;}}}", 0, 0, 0, 0);
        all("fun f(a,b){var s=0;while a{a=a-1;if a==5{continue;}if a==b{break;}s=s+a;}return s;}", 8, 2, 0, 7 + 6 + 4 + 3);
    }

    private static void steps() {
        Gearbox box = coded("fun f(a,b){while b{var t=a%b;a=b;b=t;}return a;}");
        int[] due = {31, 22, 19};
        for (int way = 0; way < 3; way++) {
            box.run(way, 0, 12, 18, 0, 0);
            check.same("steps of run " + way, box.stepsRun(), due[way]);
        }
        // A text: each statement that begins, and each number, name, operator, call and [ ].
        text("fun f(){}", 0);
        text("fun f(){return 1;}", 2);
        text("fun f(a){[a+1]=-a;}", 1 + 3 + 2);
        text("fun f(a){return [[a]];}", 4);
        text("fun f(){g(1,2);}fun g(a,b){return a;}", 2 + 2 + 2);
        text("fun f(a){if a{a=1;}else{}}", 2);
        text("fun f(a){if !a{a=1;}else{}}", 3 + 2);
        text("fun f(a){return a&&a;}", 3);
        text("fun f(a){return a||a;}", 4);
        text("fun f(a){while a<2{a=a+1;continue;}}", 1 + 3 * 3 + 2 * (4 + 1));
        text("fun f(a){while 1{break;}}", 1 + 1 + 1);
        // Blocks: each phi, step and end.
        Gearbox blocks = Tape.with("fun f(a){if a{a=1;}return a;}");
        blocks.run(1, 0, 5, 0, 0, 0);
        check.same("steps of blocks", blocks.stepsRun(), 2 + 2 + 2);
        blocks.run(1, 0, 0, 0, 0, 0);
        check.same("steps of blocks past an if", blocks.stepsRun(), 2 + 1 + 2);
    }

    private static void text(String text, int due) {
        Gearbox box = Tape.with(text);
        box.run(0, 0, 0, 0, 0, 0);
        check.same("steps of '" + text + "'", box.stepsRun(), due);
    }

    private static void memory() {
        Gearbox box = coded("fun f(a,b){[a]=b;[17]=[a]+[0-1];[0-1]=7;return [3]+[19];}");
        for (int way = 0; way < 3; way++) {
            check.same("run " + way, box.run(way, 0, 3, 5, 0, 0), 0);
            check.same("result", box.result(), 10);
            check.same("word 3", box.word(3), 5);
            check.same("word 1", box.word(1), 5);
            check.same("word 15", box.word(15), 7);
            check.same("word 0", box.word(0), 0);
        }
        // 0 at the beginning of each run; x of [x] = y ahead of y.
        Gearbox order = coded("fun f(a){[g(1)]=g(2);return [1]*10+[5];}fun g(x){[5]=[5]*10+x;return x;}");
        for (int way = 0; way < 3; way++) {
            order.run(way, 0, 0, 0, 0, 0);
            check.same("result of order " + way, order.result(), 20 + 12);
            check.same("word 5 of order " + way, order.word(5), 12);
        }
    }

    private static void outcomes() {
        all("fun f(a,b){return a/b;}", 1, 0, 1, 0);
        all("fun f(a,b){return a%b;}", 1, 0, 1, 0);
        all("fun f(a,b){[1]=1;var x=a/b;[2]=2;return 3;}", 1, 0, 1, 0);
        all("fun f(a,b){while 1{}}", 1, 0, 2, 0);
        all("fun f(a,b){return f(a,b);}", 1, 0, 3, 0);
        Gearbox box = coded("fun f(a,b){[1]=1;var x=a/b;[2]=2;return 3;}");
        for (int way = 0; way < 3; way++) {
            box.run(way, 0, 1, 0, 0, 0);
            check.same("word 1 behind a division by 0", box.word(1), 1);
            check.same("word 2 behind a division by 0", box.word(2), 0);
        }
        // Eight calls in each other are no more than may be.
        all("fun f(a,b){if a>1{return f(a-1,b)+1;}return 1;}", 8, 0, 0, 8);
        all("fun f(a,b){if a>1{return f(a-1,b)+1;}return 1;}", 9, 0, 3, 0);
        // Behind its arguments: the ninth call is not made, though its argument is evaluated.
        Gearbox deep = coded("fun f(a){[0]=[0]+1;return f(g());}fun g(){[1]=[1]+1;return 1;}");
        for (int way = 0; way < 3; way++) {
            check.same("run " + way, deep.run(way, 0, 0, 0, 0, 0), 3);
            check.same("calls of f", deep.word(0), 8);
            // The eighth f has no room for g.
            check.same("calls of g", deep.word(1), 7);
        }
        // What comes first counts: a division by 0 in an argument of the ninth call.
        all("fun f(a,b){if a==8{return f(1/b,2);}return f(a+1,b);}", 1, 0, 1, 0);
    }

    /** The 5000th step may still end a run; the 5001st ends it with the outcome 2. */
    private static void ends() {
        Gearbox box = Tape.with("fun f(a,b){while a{a=a-1;}return 7;}");
        // 1 for the while, 1 for each test, 4 for each round, 2 for the return.
        box.run(0, 0, 999, 0, 0, 0);
        check.same("steps of 999 rounds", box.stepsRun(), 1 + 1000 + 4 * 999 + 2);
        check.same("outcome of 999 rounds", box.outcome(), 0);
        check.same("result of 999 rounds", box.result(), 7);
        Gearbox exact = Tape.with("fun f(a,b){while a{a=a-1;}return -7;}");
        exact.run(0, 0, 999, 0, 0, 0);
        check.same("steps of 5000", exact.stepsRun(), 5000);
        check.same("outcome of 5000", exact.outcome(), 0);
        check.same("result of 5000", exact.result(), -7);
        Gearbox over = Tape.with("fun f(a,b){while a{a=a-1;}[1]=1;return 7;}");
        over.run(0, 0, 999, 0, 0, 0);
        check.same("steps of more", over.stepsRun(), 5000);
        check.same("outcome of more", over.outcome(), 2);
        check.same("result of more", over.result(), 0);
        check.same("word 1 of more, which was written ahead of it", over.word(1), 0 + 1);
        // Blocks: 2 at first, 2 for each test with its phi, 3 for each round, 2 at last.
        Gearbox blocks = Tape.with("fun f(a){while a{a=a-1;}return 7;}");
        blocks.run(1, 0, 998, 0, 0, 0);
        check.same("steps of 998 rounds of blocks", blocks.stepsRun(), 2 + 2 * 999 + 3 * 998 + 2);
        blocks.run(1, 0, 999, 0, 0, 0);
        check.same("steps of 999 rounds of blocks", blocks.stepsRun(), 5000);
        check.same("outcome of 999 rounds of blocks", blocks.outcome(), 2);
    }

    private static void arguments() {
        Gearbox box = coded("fun f(a,b,c,d){return a*1000+b*100+c*10+d;}fun g(a){return a;}fun h(){return 9;}");
        for (int way = 0; way < 3; way++) {
            box.run(way, 0, 1, 2, 3, 4);
            check.same("four arguments", box.result(), 1234);
            box.run(way, 1, 5, 2, 3, 4);
            check.same("one argument", box.result(), 5);
            box.run(way, 2, 1, 2, 3, 4);
            check.same("no argument", box.result(), 9);
        }
        // Arguments that are calls, and variables of their own for each call.
        Gearbox inner = coded("fun f(a){var x=a*2;return g(g(1,a),g(x,g(2,x)))+x;}fun g(x,y){var z=x;x=y;return z*10+x;}");
        for (int way = 0; way < 3; way++) {
            inner.run(way, 0, 3, 0, 0, 0);
            check.same("calls in calls", inner.result(), (13 * 10 + 6 * 10 + 26) + 6);
        }
    }

    private static void wrong() {
        Gearbox box = Tape.with("fun f(a){[2]=3;return a;}");
        box.run(0, 0, 4, 0, 0, 0);
        long before = box.digest();
        for (int f : new int[] {-1, 1, Integer.MIN_VALUE, Integer.MAX_VALUE}) {
            check.raises("run of function " + f, IndexOutOfBoundsException.class, () -> box.run(9, f, 0, 0, 0, 0));
            check.raises("differences of function " + f, IndexOutOfBoundsException.class,
                () -> box.differences(f, 3, 2));
        }
        for (int way : new int[] {-1, 3, Integer.MIN_VALUE, Integer.MAX_VALUE}) {
            check.raises("way " + way, IllegalArgumentException.class, () -> box.run(way, 0, 0, 0, 0, 0));
        }
        check.raises("run without code", IllegalStateException.class, () -> box.run(2, 0, 0, 0, 0, 0));
        for (int place : new int[] {-1, 16, Integer.MIN_VALUE, Integer.MAX_VALUE}) {
            check.raises("word " + place, IndexOutOfBoundsException.class, () -> box.word(place));
        }
        int[][] bounds = {{1, 0}, {0, 6}, {Integer.MIN_VALUE, Integer.MAX_VALUE}, {Integer.MAX_VALUE, Integer.MIN_VALUE},
            {-2000000000, 2000000000}};
        for (int[] pair : bounds) {
            check.raises("differences from " + pair[0] + " to " + pair[1], IllegalArgumentException.class,
                () -> box.differences(0, pair[0], pair[1]));
        }
        check.same("nothing has changed", box.digest(), before);
        check.same("result", box.result(), 4);
        check.same("word 2", box.word(2), 3);
    }

    private static void differing() {
        Gearbox box = coded("fun f(a,b,c,d){[a]=b;if a-d{return 1/0;}return b*c;}");
        box.run(1, 0, 3, 4, 5, 3);
        long before = box.digest();
        check.same("differences", box.differences(0, -2, 3), 0);
        check.same("differences at the top", box.differences(0, Integer.MAX_VALUE - 5, Integer.MAX_VALUE), 0);
        check.same("differences at the bottom", box.differences(0, Integer.MIN_VALUE, Integer.MIN_VALUE), 0);
        check.same("all is as if nothing had been run", box.digest(), before);
        check.same("result", box.result(), 20);
        check.same("word 3", box.word(3), 4);
        // All ways do the same; where one of them takes too many steps, it does not count.
        Gearbox long1 = coded("fun f(a){while a<750{a=a+1;}return a;}");
        long1.run(0, 0, 1, 0, 0, 0);
        check.same("the text is too long", long1.outcome(), 2);
        long1.run(2, 0, 1, 0, 0, 0);
        check.same("the code is not", long1.outcome(), 0);
        check.same("differences", long1.differences(0, 0, 5), 0);
    }

    private static void digests() {
        long d = 58009;
        d = d * 31;
        d = d * 31 - 1;
        for (int n = 0; n < 3 + 16; n++) {
            d = d * 31;
        }
        Gearbox box = new Gearbox();
        check.same("digest of a new object", box.digest(), d);
        Tape.load(box, "fun f(a,b){while b{var t=a%b;a=b;b=t;}return a;}fun g(){}fun h(a,b){return a&&b;}");
        box.run(0, 0, 12, 18, 0, 0);
        check.same("digest", box.digest(), Dump.digest(box));
        box.allocate(3);
        box.run(2, 2, 12, 18, 0, 0);
        check.same("digest with code", box.digest(), Dump.digest(box));
        box.settle();
        check.same("digest behind settle", box.digest(), Dump.digest(box));
        box.restore();
        Tape.load(box, "x");
        check.same("digest behind an error", box.digest(), Dump.digest(box));
        check.isTrue("meanCode", box.meanCode() == 0.0);
        box.allocate(3);
        check.isTrue("meanCode with code",
            box.meanCode() == (box.lines(0) + box.lines(1) + box.lines(2)) / 3.0);
    }
}
