/** Section 5 of the document and promises 33 to 41, sentence by sentence: at each bound, and one beyond it. */
public final class CodeBoundsTest {
    private static final Check check = new Check("CodeBoundsTest");
    private static final int LEAST = Integer.MIN_VALUE;
    private static final int MOST = Integer.MAX_VALUE;
    // With 8 registers these take 16 rounds, and 17 if there were so many; with fewer registers few rounds.
    static final String SIXTEEN = "fun f(a,b,c,d){var e=4;var f=b;var q=16;var l=f;var s=[a];var j=[q];var m=[b];"
        + "var t=19;var n=13;var x=j;var h=7;var v=[h];var i=l;var r=l;while m{while n{v=m;b=b;if b{q=l;break;}n=f;d=v;l=d;"
        + "t=r;}b=b*h+c;l=f;if n{break;}if e{a=v;v=c;}a=e==a;f=i;if l{if v{e=f;}a=v-d;l=f<c;m=l;v=i|v;if m{break;}}l=a*v;"
        + "if e{break;}}if m{r=r;}else{n=j;}v=d+v;x=m<i;j=c*t;f=n+v;[d]=s;while x{d=e;l=q;}v=d*i+j;x=t*j;[l]=r;}";
    static final String SEVENTEEN = "fun f(a,b,c,d){var e=4;var f=d;var l=a;var p=[c];var j=[d];var m=[l];var t=19;"
        + "var n=13;var h=7;var o=d;var v=[f];var i=v;while v{while m{v=l;b=b;if o{break;}n=b;c=f;l=l;t=c;}b=b*i+v;l=f;"
        + "if h{break;}if f{a=e;v=c;}a=b==a;f=d;if t{if l{e=n;}b=p-d;l=j;m=v^i;if v{break;}v=m|v;if c{break;}}if b{}l=v|e;}"
        + "if l{d=d;}i=a<a;j=f*n;e=h+p;[h]=i;while o{l=v;}b=i*l+j;f=e*j;[t]=d;}";

    public static void main(String[] args) {
        registers();
        withoutProgram();
        blocksStay();
        otherFunctions();
        manyValues();
        copies();
        orderOfCopies();
        neighbours();
        uniting();
        numberOfUnited();
        takingAway();
        costs();
        depths();
        smallestRegisters();
        putAway();
        stepsOfPutAway();
        mostRounds();
        manyRounds();
        rounds();
        lines();
        jumps();
        fields();
        lineCalls();
        withoutCode();
        newCode();
        mostOfAll();
        check.end();
    }

    /** Makes code of function 0, and looks at all of it. */
    private static void are(String text, int registers, int slots, int united, int rounds, String... lines) {
        are(text, Tape.with(text), registers, slots, united, rounds, lines);
    }

    private static void are(String what, Gearbox box, int registers, int slots, int united, int rounds, String... lines) {
        box.allocate(registers);
        check.same("code of '" + what + "' for " + registers, Dump.code(box, 0), String.join("\n", lines) + "\n");
        check.same("slots of '" + what + "'", box.slots(0), slots);
        check.same("united of '" + what + "'", box.united(0), united);
        check.same("rounds of '" + what + "'", box.rounds(0), rounds);
        check.same("lines of '" + what + "'", box.lines(0), lines.length);
    }

    // ---- allocate

    private static void registers() {
        check.says("Throws `IllegalArgumentException` if registers is not 3 to 8");
        Gearbox box = Tape.with("fun f(a){return a;}fun g(){}");
        Gearbox coded = Tape.with("fun f(a){return a;}fun g(){}");
        coded.allocate(4);
        for (int k : new int[] {2, 9, 1, 0, -1, -3, 16, LEAST, MOST}) {
            check.refuses("allocate(" + k + ")", box, IllegalArgumentException.class, () -> box.allocate(k));
            check.refuses("allocate(" + k + ") with code", coded, IllegalArgumentException.class, () -> coded.allocate(k));
        }
        check.says("Returns how many lines all functions have together;");
        for (int k = 3; k <= 8; k++) {
            check.same("allocate(" + k + ")", box.allocate(k), 2 + 2);
        }
        // As many registers as there are, and no more, are used.
        String text = "fun f(a,b){var c=a+b;var d=a-b;var e=a*b;var g=a^b;var h=a&b;var i=a|b;var j=a<b;var k=a==b;"
            + "return a+b+c+d+e+g+h+(i+j+k);}";
        for (int k = 3; k <= 8; k++) {
            Gearbox many = Tape.with(text);
            many.allocate(k);
            int most = -1;
            for (int line = 0; line < many.lines(0); line++) {
                most = Math.max(most, many.codeGives(0, line));
            }
            check.same("greatest register of " + k, most, k - 1);
            many.run(2, 0, 12, 5, 0, 0);
            check.same("result with " + k, many.result(), 12 + 5 + 17 + 7 + 60 + 9 + 4 + 13);
        }
    }

    private static void withoutProgram() {
        check.says("Throws `IllegalStateException` if there is no program");
        Gearbox none = new Gearbox();
        for (int k = 3; k <= 8; k++) {
            int registers = k;
            check.refuses("allocate(" + k + ") without a program", none, IllegalStateException.class,
                () -> none.allocate(registers));
        }
        Tape.load(none, "fun f(){a=1;}");
        check.refuses("allocate behind an error", none, IllegalStateException.class, () -> none.allocate(3));
        check.says("If several exceptions apply, the one that is named first is thrown.");
        for (int k : new int[] {2, 9, LEAST, MOST}) {
            check.refuses("allocate(" + k + ") without a program", none, IllegalArgumentException.class,
                () -> none.allocate(k));
        }
        Tape.load(none, "fun f(){}");
        check.same("allocate with a program", none.allocate(3), 2);
    }

    private static void blocksStay() {
        check.says("allocate() makes code of each function, from a copy of its blocks, with K registers; the blocks stay as they are.");
        String text = "fun f(a,b){while b{var t=a%b;a=b;b=t;}return a;}";
        String six = text + text.replace("f(", "g(") + text.replace("f(", "h(") + text.replace("f(", "i(")
            + text.replace("f(", "j(") + text.replace("f(", "k(");
        for (int k = 3; k <= 8; k++) {
            Gearbox box = Tape.with(six);
            String before = "";
            String after = "";
            for (int f = 0; f < 6; f++) {
                before += Dump.blocks(box, f);
            }
            Gearbox one = Tape.with(text);
            int lines = one.allocate(k);
            check.same("lines of six functions", box.allocate(k), 6 * lines);
            for (int f = 0; f < 6; f++) {
                after += Dump.blocks(box, f);
                check.same("code of function " + f, Dump.code(box, f), Dump.code(one, 0));
            }
            check.same("blocks of six functions", after, before);
        }
    }

    private static final String[] SHAPES = {"(a,b){if a{b=1;}return b;}", "(a){return a;}",
        "(a,b){while a{[1]=b;while a{a=a-1;}}return b;}", "(a,b,c,d){return a*a+(b*b+(c*c+d));}",
        "(a,b,n){while n{var t=a;a=b;b=t;n=n-1;if n==b{continue;}if a{break;}}return a-b;}", "(){while 1{if [1]{[1]=[1]-1;}}}"};

    /** The code of a function is the same, whatever other functions there are, ahead of it and behind it. */
    private static void otherFunctions() {
        check.says("allocate() makes code of each function,");
        for (int first = 0; first < 6; first++) {
            for (int step : new int[] {1, 5}) {
                StringBuilder text = new StringBuilder();
                for (int n = 0; n < 6; n++) {
                    text.append("fun f").append(n).append(SHAPES[(first + n * step) % 6]);
                }
                Gearbox six = Tape.with(text.toString());
                for (int k = 3; k <= 5; k++) {
                    six.allocate(k);
                    for (int n = 0; n < 6; n++) {
                        Gearbox one = Tape.with("fun f" + SHAPES[(first + n * step) % 6]);
                        one.allocate(k);
                        String what = "function " + n + " of " + text;
                        check.same("code of " + what, Dump.code(six, n), Dump.code(one, 0));
                        check.same("slots of " + what, six.slots(n), one.slots(0));
                        check.same("united of " + what, six.united(n), one.united(0));
                        check.same("rounds of " + what, six.rounds(n), one.rounds(0));
                    }
                }
            }
        }
    }

    /** From few values to 250, in blocks and round loops, of which some live all through. */
    private static void manyValues() {
        check.says("A value is live behind a step, if from there a step or end can be reached that uses it, and no step that gives it "
            + "stands ahead of that on this way.");
        for (int values : new int[] {30, 62, 63, 64, 65, 66, 126, 127, 128, 129, 130, 190, 191, 192, 193, 194, 249, 250}) {
            String text = withValues(values);
            Gearbox box = Tape.with(text);
            check.same("values of " + text, box.values(0), values);
            Oracle oracle = new Oracle();
            oracle.load(text);
            for (int k = 3; k <= 4; k++) {
                check.same("code of " + box.values(0) + " values", box.allocate(k), oracle.allocate(k));
                check.same("digest of " + box.values(0) + " values", box.digest(), oracle.digest());
            }
        }
        Gearbox round = Tape.with("fun f(a,b){while a{[1]=b;while a{a=a-1;}}}");
        are("a value that lives round two loops", round, 3, 0, 3, 1,
            "r2=par0", "r1=par1", "if !r2 go 10", "r0=1", "[r0]=r1", "if !r2 go 9", "r0=1", "r2=r2-r0", "go 5", "go 2", "r0=0",
            "return r0");
    }

    /** A program of two loops in each other with so many values, of which 12 are those of the loops. */
    private static String withValues(int values) {
        String nine = "d=1+1+1+1+1;";
        int rest = values - 12;
        int ahead = rest / 18;
        return "fun f(a,b,c,d){while a{[1]=c;" + nine.repeat(ahead) + "while b{b=b-a*d;}" + nine.repeat(rest / 9 - ahead)
            + "d=7;".repeat(rest % 9) + "a=b-d;}return a+b;}";
    }

    // ---- copies

    private static void copies() {
        check.says("Always the first one left, whose p is not the v of any that is left, is put; if there is none, a copy of the p of "
            + "the first one left into a new value t is put, and then all that are left take t instead of this p.");
        // Two phis, of which one takes the other one: no new value.
        are("fun f(a,b,c,d){while a{a=d;d=c;}}", 3, 0, 2, 1,
            "r2=par0", "r0=par1", "r1=par2", "r0=par3", "if !r2 go 8", "r2=r0", "r0=r1", "go 4", "r0=0", "return r0");
        // Two that take each other.
        are("fun f(a,b,c,d){while b{a=c;c=b;b=a;}}", 3, 0, 2, 1,
            "r0=par0", "r2=par1", "r1=par2", "r0=par3", "if !r2 go 9", "r0=r2", "r2=r1", "r1=r0", "go 4", "r0=0",
            "return r0");
        // Three in a ring, this way round and that way.
        are("fun f(a,b,c,d){while d{var t=a;a=b;b=c;c=t;d=d-1;}return a+b*c;}", 8, 0, 5, 1,
            "r4=par0", "r3=par1", "r2=par2", "r1=par3", "if !r1 go 12", "r0=1", "r1=r1-r0", "r0=r4", "r4=r3", "r3=r2",
            "r2=r0", "go 4", "r0=r3*r2", "r0=r4+r0", "return r0");
        are("fun f(a,b,c,d){while d{var t=c;c=b;b=a;a=t;d=d-1;}return a+b*c;}", 8, 0, 5, 1,
            "r4=par0", "r3=par1", "r2=par2", "r1=par3", "if !r1 go 12", "r0=1", "r1=r1-r0", "r0=r4", "r4=r2", "r2=r3",
            "r3=r0", "go 4", "r0=r3*r2", "r0=r4+r0", "return r0");
        check.says("those of a value from itself are none.");
        are("fun f(a,b,c,d){while c{b=b;}}", 3, 0, 1, 1,
            "r0=par0", "r0=par1", "r1=par2", "r0=par3", "if !r1 go 6", "go 4", "r0=0", "return r0");
        check.says("At first these are left, in the order of the phis.");
        are("fun f(a,b,c,d){if c{c=a;a=d;}d=a;d=c;}", 3, 0, 2, 1,
            "r2=par0", "r0=par1", "r1=par2", "r0=par3", "if !r1 go 6", "go 8", "r0=r2", "r2=r1", "r0=0", "return r0");
    }

    private static void orderOfCopies() {
        check.says("For each block with phis, by numbers, for each predecessor P of it, by numbers: the phis get their values from P at "
            + "once. For this copies p from v (p the phi) are put at the end of the steps of P, one behind the other;");
        check.says("New values get the numbers behind the greatest that any value of the function ever had (in these blocks, and in the "
            + "copy).");
        // Two ways back that need a new value each, and two loops that do: the numbers of these tell who comes first.
        are("fun f(a,b,c,d){while d{d=b;b=c;c=d;if a{continue;}}}", 3, 4, 2, 2,
            "r0=par0", "slot0=r0", "r2=par1", "r0=par2", "r1=par3", "slot1=r1", "r1=slot1", "if !r1 go 20", "r1=slot0",
            "if !r1 go 15", "r1=r2", "slot2=r2", "r2=r0", "r0=slot2", "go 7", "r1=r2", "slot3=r2", "r2=r0", "r0=slot3",
            "go 7", "r0=0", "return r0");
        are("fun f(a,b,c,d){var e=b;while d{d=b;b=e;e=d;}while b{b=a;a=c;c=b;}}", 3, 4, 2, 2,
            "r0=par0", "slot0=r0", "r0=par1", "r1=par2", "slot1=r1", "r2=par3", "r1=r0", "if !r2 go 13", "r2=r1",
            "slot2=r1", "r1=r0", "r0=slot2", "go 7", "r0=slot0", "r2=r0", "r0=slot1", "if !r1 go 22", "r1=r2", "slot3=r2",
            "r2=r0", "r0=slot3", "go 16", "r0=0", "return r0");
    }

    // ---- rounds

    private static void neighbours() {
        check.says("Two values are neighbours, if a step gives one of them, and the other one is live behind this step; but by a copy its "
            + "value and the one that it copies do not become neighbours.");
        // What is given and not used has neighbours, too: c and d get a register that none has who lives then.
        are("fun f(a,b,c,d){a=b+a;}", 3, 0, 0, 1,
            "r2=par0", "r1=par1", "r0=par2", "r0=par3", "r0=r1+r2", "r0=0", "return r0");
        are("fun f(a,b,c,d){return c+b;}", 3, 0, 0, 1,
            "r0=par0", "r2=par1", "r1=par2", "r0=par3", "r0=r1+r2", "return r0");
        // A copy of what lives on: both are one value then, with one register.
        are("fun f(a,b,c,d){var f=d;if a{f=d;}d=d<f;}", 3, 0, 1, 1,
            "r1=par0", "r0=par1", "r0=par2", "r0=par3", "if !r1 go 6", "go 6", "r0=r0<r0", "r0=0", "return r0");
        check.says("A value is live behind a step, if from there a step or end can be reached that uses it, and no step that gives it "
            + "stands ahead of that on this way.");
        // What an end uses lives up to there.
        are("fun f(a,b,c,d){if d{if c{}}}", 3, 0, 0, 1,
            "r0=par0", "r0=par1", "r1=par2", "r0=par3", "if !r0 go 8", "if !r1 go 7", "go 7", "go 8", "r0=0", "return r0");
    }

    private static void uniting() {
        check.says("2. Uniting. The first copy, by blocks and steps, of two values which are not neighbours, neither of which was made in "
            + "4, and which have together fewer than K neighbours (each counted once) that have K neighbours or more themselves:");
        // With three parameters besides, each of which has three neighbours, they are too many; with two they are not.
        are("fun f(a,b,c,d){if c{b=a;}return b;}", 3, 2, 1, 3,
            "r0=par0", "slot1=r0", "r2=par1", "r1=par2", "r0=par3", "slot0=r0", "if !r1 go 10", "r0=slot1", "r2=r0",
            "go 10", "return r2");
        are("fun f(a,b,c){if c{b=a;}return b;}", 3, 0, 1, 1,
            "r2=par0", "r1=par1", "r0=par2", "if !r0 go 5", "go 6", "r2=r1", "return r2");
        are("fun f(a,b,c,d){if c{b=a;}return b;}", 4, 0, 1, 1,
            "r3=par0", "r2=par1", "r1=par2", "r0=par3", "if !r1 go 6", "go 7", "r3=r2", "return r3");
        // Neighbours that both have count once.
        are("fun f(a,b,c,d){if b{a=a;}return a+d;}", 3, 0, 1, 1,
            "r2=par0", "r1=par1", "r0=par2", "r0=par3", "if !r1 go 6", "go 6", "r0=r2+r0", "return r0");
        // Neighbours are not united.
        are("fun f(a,b,c,d){while a{a=c;}}", 3, 0, 1, 1,
            "r2=par0", "r0=par1", "r1=par2", "r0=par3", "if !r2 go 7", "r2=r1", "go 4", "r0=0", "return r0");
        // What was made in 4 is not united: what comes out of slot 1 is copied.
        are("fun f(a,b,c,d){if b{c=a;}while c{}}", 3, 2, 1, 3,
            "r0=par0", "slot1=r0", "r2=par1", "r1=par2", "r0=par3", "slot0=r0", "if !r2 go 10", "r0=slot1", "r1=r0",
            "go 10", "if !r1 go 12", "go 10", "r0=0", "return r0");
        check.says("the greater value becomes the smaller one everywhere, copies of a value from itself are left out, and 1 is reckoned "
            + "anew; so on till there is no such copy.");
        are("fun f(a,b,c,d){if d{b=c;}return b;}", 3, 0, 1, 1,
            "r0=par0", "r2=par1", "r1=par2", "r0=par3", "if !r0 go 6", "go 7", "r1=r2", "return r1");
        // The first copy, though both could be.
        are("fun f(a,b,c,d){while c{b=c;break;}while b{}}", 3, 0, 1, 1,
            "r0=par0", "r2=par1", "r1=par2", "r0=par3", "if !r1 go 6", "go 7", "r1=r2", "if !r1 go 9", "go 7", "r0=0",
            "return r0");
    }

    private static void numberOfUnited() {
        check.says("Returns how many copies were united as its code was made (each time that a greater value became a smaller one); 0 "
            + "without code.");
        check.same("united of none", united("fun f(a){return a;}"), 0);
        // Two copies of the same two values are one that was united.
        check.same("united of two copies of one value", united("fun f(a,b){if b{a=a;}return a;}"), 1);
        check.same("united in a row", united("fun f(a,b){if b{if b{a=a;}}return a;}"), 2);
        check.same("united of two values", united("fun f(a,b){if b{a=1;}else{a=2;}return a;}"), 2);
        // Those of all rounds.
        are("fun f(a,b,c,d){if d{a=d;}return c+a+b+c+d;}", 3, 3, 1, 4,
            "r2=par0", "r0=par1", "slot0=r0", "r0=par2", "slot2=r0", "r1=par3", "if !r1 go 9", "r2=r1", "go 9", "r0=slot2",
            "r0=r0+r2", "slot1=r0", "r2=slot0", "r0=slot1", "r2=r0+r2", "r0=slot2", "r0=r2+r0", "r0=r0+r1", "return r0");
    }

    private static int united(String text) {
        Gearbox box = Tape.with(text);
        box.allocate(8);
        return box.united(0);
    }

    private static void takingAway() {
        check.says("Values are taken away one by one: the smallest one that has fewer than K neighbours left;");
        are("fun f(a,b,c,d){}", 3, 0, 0, 1, "r0=par0", "r0=par1", "r0=par2", "r0=par3", "r0=0", "return r0");
        are("fun f(a,b){return a+b;}", 3, 0, 0, 1, "r1=par0", "r0=par1", "r0=r1+r0", "return r0");
        // Three at once find registers, four do not.
        are("fun f(a,b,c){return a+b+c;}", 3, 0, 0, 1, "r2=par0", "r0=par1", "r1=par2", "r0=r2+r0", "r0=r0+r1", "return r0");
        are("fun f(a,b,c,d){return a+b+c;}", 3, 2, 0, 3,
            "r0=par0", "slot1=r0", "r2=par1", "r1=par2", "r0=par3", "slot0=r0", "r0=slot1", "r0=r0+r2", "r0=r0+r1",
            "return r0");
        are("fun f(a,b,c,d){return a+b+c;}", 4, 0, 0, 1,
            "r3=par0", "r2=par1", "r1=par2", "r0=par3", "r0=r3+r2", "r0=r0+r1", "return r0");
        check.says("if there is none, of those that were not made in 4 (of all, if all that are left were) the one whose cost for each "
            + "neighbour that is left is least (exactly, by fractions), of several the smallest.");
        // Of several the smallest: d costs least, and then a, b and c cost the same.
        are("fun f(a,b,c,d){d=a+b;return c;}", 3, 2, 0, 3,
            "r0=par0", "slot1=r0", "r2=par1", "r1=par2", "r0=par3", "slot0=r0", "r0=slot1", "r0=r0+r2", "return r1");
        // For each neighbour that is left.
        are("fun f(a,b,c,d){return c+a+b;}", 3, 2, 0, 3,
            "r0=par0", "slot1=r0", "r2=par1", "r1=par2", "r0=par3", "slot0=r0", "r0=slot1", "r0=r1+r0", "r0=r0+r2",
            "return r0");
        are("fun f(a,b,c,d){d=d+b;d=a*a-d;return b+c;}", 3, 1, 0, 2,
            "r2=par0", "r1=par1", "r0=par2", "slot0=r0", "r0=par3", "r0=r0+r1", "r2=r2*r2", "r0=r2-r0", "r0=slot0",
            "r0=r1+r0", "return r0");
        // By fractions: 2/3 and 1/3 are no whole numbers.
        are("fun f(a,b,c,d){if c{}return a+b;}", 3, 2, 0, 3,
            "r0=par0", "slot1=r0", "r1=par1", "r2=par2", "r0=par3", "slot0=r0", "if !r2 go 8", "go 8", "r0=slot1",
            "r0=r0+r1", "return r0");
        // Not of those that were made in 4, though they cost less.
        are("fun f(a,b,c,d){a=d+a;return c+b+b+c;}", 3, 3, 0, 4,
            "r0=par0", "slot0=r0", "r0=par1", "slot2=r0", "r1=par2", "r0=par3", "slot1=r0", "r2=slot0", "r0=slot1",
            "r0=r0+r2", "r0=slot2", "r2=r1+r0", "r0=slot2", "r0=r2+r0", "r0=r0+r1", "return r0");
    }

    private static void costs() {
        check.says("The cost of a value: for each step that gives it, and each step or end that uses it (once, if it is left and right), 8 "
            + "to the power of the depth of its block, at most 8 * 8 * 8 * 8.");
        // Once, if it is left and right: a costs as much as b and c, and is the smallest.
        are("fun f(a,b,c,d){return a+a+c+b;}", 3, 2, 0, 3,
            "r0=par0", "slot1=r0", "r2=par1", "r1=par2", "r0=par3", "slot0=r0", "r0=slot1", "r0=r0+r0", "r0=r0+r1",
            "r0=r0+r2", "return r0");
        // Used twice it costs more.
        are("fun f(a,b,c,d){return a+c+b+a;}", 3, 2, 0, 3,
            "r1=par0", "r0=par1", "slot1=r0", "r2=par2", "r0=par3", "slot0=r0", "r2=r1+r2", "r0=slot1", "r0=r2+r0",
            "r0=r0+r1", "return r0");
        // Ends count, and so do steps that give it.
        are("fun f(a,b,c,d){if a{}return c+b;}", 3, 2, 0, 3,
            "r0=par0", "slot1=r0", "r2=par1", "r1=par2", "r0=par3", "slot0=r0", "r0=slot1", "if !r0 go 9", "go 9",
            "r0=r1+r2", "return r0");
        are("fun f(a,b,c,d){if c{d=b;}return c+a+d+b;}", 3, 2, 1, 3,
            "r0=par0", "slot0=r0", "r0=par1", "slot1=r0", "r1=par2", "r2=par3", "if !r1 go 10", "r0=slot1", "r2=r0",
            "go 10", "r0=slot0", "r0=r1+r0", "r1=r0+r2", "r0=slot1", "r0=r1+r0", "return r0");
    }

    private static void depths() {
        check.says("8 to the power of the depth of its block, at most 8 * 8 * 8 * 8.");
        are("fun f(a,b,c,d){while a{}c=c*b;}", 3, 2, 0, 3,
            "r2=par0", "r0=par1", "slot1=r0", "r1=par2", "r0=par3", "slot0=r0", "if !r2 go 8", "go 6", "r0=slot1",
            "r0=r1*r0", "r0=0", "return r0");
        // In four loops it costs more than in three, but in five it does not cost more than in four.
        are("fun f(a,b,c,d){while b{while c{while b{while d{}}}}return c+a+d+b;}", 3, 3, 0, 4,
            "r0=par0", "slot0=r0", "r0=par1", "slot2=r0", "r0=par2", "slot1=r0", "r1=par3", "r0=slot2", "if !r0 go 18",
            "r0=slot1", "if !r0 go 17", "r0=slot2", "if !r0 go 16", "if !r1 go 15", "go 13", "go 11", "go 9", "go 7",
            "r2=slot0", "r0=slot1", "r0=r0+r2", "r1=r0+r1", "r0=slot2", "r0=r1+r0", "return r0");
        are("fun f(a,b,c,d){while b{while a{while a{while b{while d{a=c;}}}}}}", 3, 1, 5, 2,
            "r0=par0", "r2=par1", "r1=par2", "slot0=r1", "r1=par3", "if !r2 go 16", "if !r0 go 15", "if !r0 go 14",
            "if !r2 go 13", "if !r1 go 12", "r0=slot0", "go 9", "go 8", "go 7", "go 6", "go 5", "r0=0", "return r0");
    }

    private static void smallestRegisters() {
        check.says("Then, in the opposite order, each value gets the smallest register (they are 0 to K - 1) that none of its neighbours "
            + "has that have one already; none, if there is none of the K.");
        are("fun f(a){return a;}", 8, 0, 0, 1, "r0=par0", "return r0");
        are("fun f(a,b,c,d){return a+b*c-d;}", 8, 0, 0, 1,
            "r3=par0", "r2=par1", "r0=par2", "r1=par3", "r0=r2*r0", "r0=r3+r0", "r0=r0-r1", "return r0");
        are("fun f(a,b,c,d){if c{}}", 3, 0, 0, 1,
            "r0=par0", "r0=par1", "r1=par2", "r0=par3", "if !r1 go 6", "go 6", "r0=0", "return r0");
    }

    private static void putAway() {
        check.says("Otherwise those without one are put away, by their numbers: one that is given by just one step, which is of the kind 0, "
            + "has no slot; each other one gets the next slot, 0 for the first one of the function.");
        // The number 4 has none, though it is put away.
        are("fun f(a,b,c,d){var e=4;var m=[d];return c+a;}", 3, 0, 0, 2,
            "r2=par0", "r0=par1", "r1=par2", "r0=par3", "r0=[r0]", "r0=r1+r2", "return r0");
        // By their numbers: d and what comes of c & c in one round, a in the next one.
        are("fun f(a,b,c,d){d=c&c;return c+a+b;}", 3, 3, 0, 3,
            "r0=par0", "slot2=r0", "r2=par1", "r1=par2", "r0=par3", "slot0=r0", "r0=r1&r1", "slot1=r0", "r0=slot2",
            "r0=r1+r0", "r0=r0+r2", "return r0");
        check.says("Returns how many slots its code has; 0 without code.");
        Gearbox box = Tape.with("fun f(a,b,c,d){d=c&c;return c+a+b;}");
        check.same("slots without code", box.slots(0), 0);
        int[] due = {3, 0, 0, 0, 0, 0};
        for (int k = 3; k <= 8; k++) {
            box.allocate(k);
            check.same("slots with " + k, box.slots(0), due[k - 3]);
        }
    }

    private static void stepsOfPutAway() {
        check.says("Then each step and end is gone through once, by blocks and steps: for each of them that it uses, the left one first "
            + "(once, if it is left and right): a step 26 of the slot, or a step 0 of the number, that gives a new value, is put ahead "
            + "of it, and the new value is used instead; then, if it gives one of them: without a slot the step is left out; with one "
            + "it gives a new value instead, and a step 27 of this is put behind it.");
        // The left one first.
        are("fun f(a,b,c,d){var g=[b];a=a|c;return b+g+d;}", 3, 5, 0, 3,
            "r0=par0", "slot0=r0", "r1=par1", "r0=par2", "slot1=r0", "r0=par3", "slot3=r0", "r0=[r1]", "slot4=r0",
            "r2=slot0", "r0=slot1", "r0=r2|r0", "slot2=r0", "r0=slot4", "r1=r1+r0", "r0=slot3", "r0=r1+r0", "return r0");
        // Once, if it is left and right.
        are("fun f(a,b,c,d){return a+a+c+b;}", 3, 2, 0, 3,
            "r0=par0", "slot1=r0", "r2=par1", "r1=par2", "r0=par3", "slot0=r0", "r0=slot1", "r0=r0+r0", "r0=r0+r1",
            "r0=r0+r2", "return r0");
        // Ahead of an end.
        are("fun f(a,b,c,d){if a{}return c+b;}", 3, 2, 0, 3,
            "r0=par0", "slot1=r0", "r2=par1", "r1=par2", "r0=par3", "slot0=r0", "r0=slot1", "if !r0 go 9", "go 9",
            "r0=r1+r2", "return r0");
    }

    private static void mostRounds() {
        check.says("Then rounds, at most 16:");
        check.says("If 16 rounds are not enough for a function, there is no code of any function.");
        check.says("-1 if there is no code, for 16 rounds were not enough.");
        Oracle oracle = new Oracle();
        oracle.load(SEVENTEEN);
        oracle.mostRounds = 17;
        check.isTrue("with 17 rounds there would be code", oracle.allocate(8) > 0);
        check.same("rounds that it would take", oracle.codes.get(0).rounds, 17);
        oracle.mostRounds = 16;
        check.same("with 16 there is none", oracle.allocate(8), -1);

        Gearbox enough = Tape.with(SIXTEEN + "fun g(){}");
        oracle.load(SIXTEEN + "fun g(){}");
        int lines = oracle.allocate(8);
        check.same("allocate with 16 rounds", enough.allocate(8), lines);
        check.same("rounds", enough.rounds(0), 16);
        check.same("lines", enough.lines(0) + enough.lines(1), lines);
        check.same("digest", enough.digest(), oracle.digest());
        check.same("differences", enough.differences(0, -2, 3), 0);

        String[] texts = {SEVENTEEN, SEVENTEEN + "fun g(){}", "fun g(){}" + SEVENTEEN, "fun h(x){return -x;}" + SEVENTEEN
            + "fun g(){}"};
        for (String text : texts) {
            Gearbox box = Tape.with(text);
            String fresh = Dump.all(box);
            check.same("allocate", box.allocate(8), -1);
            check.same("all is as without code", Dump.all(box), fresh);
            isWithoutCode(box);
            // Code that was there is gone, too, and what was run is not.
            check.isTrue("allocate with 7 registers", box.allocate(7) > 0);
            check.isTrue("rounds with 7 registers", box.rounds(0) > 0 && box.rounds(box.functions() - 1) > 0);
            box.run(2, 0, 1, 2, 3, 4);
            int steps = box.stepsRun();
            check.same("allocate with 8 again", box.allocate(8), -1);
            isWithoutCode(box);
            check.same("steps of the run ahead", box.stepsRun(), steps);
            check.same("differences without code", box.differences(0, 0, 5), 0);
            check.same("run of the blocks", box.run(1, box.functions() - 1, 0, 0, 0, 0), box.outcome());
            check.isTrue("allocate with 3 registers", box.allocate(3) > 0);
            check.same("run of the code", box.run(2, 0, 1, 2, 3, 4), box.outcome());
        }
    }

    /** Programs of which some take a great many rounds: those two, and each of them without one of its statements. */
    private static void manyRounds() {
        check.says("If 16 rounds are not enough for a function, there is no code of any function.");
        int[] seen = new int[17];
        for (String text : new String[] {SIXTEEN, SEVENTEEN}) {
            int from = text.indexOf('{') + 1;
            for (int at = from; at < text.length(); at++) {
                char c = text.charAt(at);
                if (c == ';') {
                    asOracle(text.substring(0, from) + text.substring(at + 1), seen);
                }
                if (c == ';' || c == '{' || c == '}') {
                    from = at + 1;
                }
            }
        }
        for (int rounds = 8; rounds <= 16; rounds++) {
            check.isTrue("there is code of " + rounds + " rounds", seen[rounds] > 0);
        }
    }

    private static void asOracle(String text, int[] seen) {
        Oracle oracle = new Oracle();
        Gearbox box = new Gearbox();
        int error = oracle.load(text);
        check.same("load of " + text, Tape.load(box, text), error);
        if (error == 0) {
            check.same("allocate(8) of " + text, box.allocate(8), oracle.allocate(8));
            check.same("digest of " + text, box.digest(), oracle.digest());
            seen[box.rounds(0)]++;
        }
    }

    private static void isWithoutCode(Gearbox box) {
        for (int f = 0; f < box.functions(); f++) {
            int function = f;
            check.same("lines of " + f, box.lines(f), 0);
            check.same("slots of " + f, box.slots(f), 0);
            check.same("united of " + f, box.united(f), 0);
            check.same("rounds of " + f, box.rounds(f), 0);
            check.refuses("codeKind", box, IndexOutOfBoundsException.class, () -> box.codeKind(function, 0));
            check.refuses("codeGives", box, IndexOutOfBoundsException.class, () -> box.codeGives(function, 0));
            check.refuses("codeLeft", box, IndexOutOfBoundsException.class, () -> box.codeLeft(function, 0));
            check.refuses("codeRight", box, IndexOutOfBoundsException.class, () -> box.codeRight(function, 0));
            check.refuses("run of the code", box, IllegalStateException.class, () -> box.run(2, function, 0, 0, 0, 0));
        }
        check.isTrue("meanCode", box.meanCode() == 0.0);
    }

    private static void rounds() {
        check.says("Returns how many rounds its code took; 0 without code.");
        Gearbox box = Tape.with("fun f(a,b,c,d){return a+b+c;}fun g(a){return a;}");
        check.same("rounds without code", box.rounds(0), 0);
        box.allocate(3);
        check.same("rounds of f", box.rounds(0), 3);
        check.same("rounds of g", box.rounds(1), 1);
        box.allocate(4);
        check.same("rounds of f with 4", box.rounds(0), 1);
        box.restore();
        check.same("rounds behind restore", box.rounds(0), 0);
        // Of one program with 8 registers as many as there may be, with 3 a few.
        Gearbox most = Tape.with(SIXTEEN);
        most.allocate(8);
        check.same("rounds", most.rounds(0), 16);
        most.allocate(3);
        check.isTrue("rounds with 3", most.rounds(0) > 1 && most.rounds(0) < 16);
    }

    // ---- code

    private static void lines() {
        check.says("Blocks by numbers, in each its steps with registers in place of values, without copies from a register to itself;");
        // The two copies of b, in both ways, are from the register of b to itself.
        are("fun f(a,b,c,d){if c{}}", 3, 0, 0, 1,
            "r0=par0", "r0=par1", "r1=par2", "r0=par3", "if !r1 go 6", "go 6", "r0=0", "return r0");
        are("fun f(a,b,c,d){if c{c=a;a=d;}d=a;d=c;}", 3, 0, 2, 1,
            "r2=par0", "r0=par1", "r1=par2", "r0=par3", "if !r1 go 6", "go 8", "r0=r2", "r2=r1", "r0=0", "return r0");
        check.says("Returns how many lines its code has; 0 without code.");
        check.same("the fewest lines", Tape.with("fun f(){}").allocate(3), 2);
        Gearbox box = Tape.with("fun f(){while 1{}}");
        box.settle();
        check.same("a jump to itself alone", box.allocate(3), 1);
        check.same("its kind", box.codeKind(0, 0), 22);
        check.same("where it goes", box.codeLeft(0, 0), 0);
    }

    private static void jumps() {
        check.says("22: nothing, if its block is the next one by number, otherwise a jump;");
        check.says("otherwise, if its first block is the next one, a jump to the second one if the value is 0 (kind 28);");
        check.says("Lines of the code are numbered from 0; a jump to a block is one to the place where its lines begin.");
        are("fun f(a){while a{while a{a=a-1;}}}", 3, 0, 3, 1,
            "r1=par0", "if !r1 go 7", "if !r1 go 6", "r0=1", "r1=r1-r0", "go 2", "go 1", "r0=0", "return r0");
        are("fun f(a){if a{if a{a=1;}else{a=2;}}else{if a{a=3;}}return a;}", 3, 0, 6, 1,
            "r0=par0", "if !r0 go 7", "if !r0 go 5", "r0=1", "go 6", "r0=2", "go 10", "if !r0 go 10", "r0=3", "go 10",
            "return r0");
        // A block without lines begins where the next one does.
        are("fun f(a){while a{if a{}}}", 3, 0, 0, 1,
            "r0=par0", "if !r0 go 5", "if !r0 go 4", "go 4", "go 1", "r0=0", "return r0");
        // A loop of one block, and a jump to line 0.
        Gearbox box = Tape.with("fun f(){while 1{}}");
        box.fold();
        are("a loop of two blocks", box, 3, 0, 0, 1, "r0=1", "go 0");
        box = Tape.with("fun f(a){while 1{[a]=[a]+1;}}");
        box.settle();
        are("a loop of a block", box, 3, 0, 0, 1, "r2=par0", "r1=1", "r0=[r2]", "r0=r1+r0", "[r2]=r0", "go 2");
    }

    private static void fields() {
        check.says("Returns its kind, 0 to 28.");
        check.says("Returns the register that gets a value by it; -1 if none.");
        check.says("Returns of the kinds 1 to 19, 23, 24, 25, 27 and 28 the left register; of 0 the number, of 20 the function, of 21 the "
            + "parameter, of 22 the line to which it goes, of 26 the slot.");
        check.says("Returns of the kinds 1 to 16 and 18 the right register; of 23 and 28 the line to which it goes, of 27 the slot; -1 of "
            + "all others.");
        Gearbox box = Tape.with("fun g(a){}fun f(a,b,c,d){while a{var t=a%b;a=b;b=t;[c]=[d]+999999999;g(b);}return c-d*(a/b);}");
        box.allocate(3);
        boolean[] seen = new boolean[29];
        int slots = box.slots(1);
        int lines = box.lines(1);
        for (int line = 0; line < lines; line++) {
            int kind = box.codeKind(1, line);
            int gives = box.codeGives(1, line);
            int left = box.codeLeft(1, line);
            int right = box.codeRight(1, line);
            seen[kind] = true;
            String what = " of a line of kind " + kind;
            boolean isGiving = kind <= 17 || kind == 20 || kind == 21 || kind == 25 || kind == 26;
            within("register that gets a value" + what, gives, isGiving ? 3 : 0);
            boolean isLeft = kind >= 1 && kind <= 19 || kind >= 23 && kind <= 25 || kind >= 27;
            if (isLeft) {
                within("left register" + what, left, 3);
            } else if (kind == 0) {
                check.isTrue("number", left == 999999999 || left == 0);
            } else {
                within("left" + what, left, kind == 20 ? 1 : kind == 21 ? 4 : kind == 22 ? lines : slots);
            }
            boolean isRight = kind >= 1 && kind <= 16 || kind == 18;
            within("right" + what, right, isRight ? 3 : kind == 28 ? lines : kind == 27 ? slots : 0);
        }
        for (int kind : new int[] {0, 1, 2, 3, 4, 5, 17, 18, 19, 20, 21, 22, 24, 25, 26, 27, 28}) {
            check.isTrue("there is a line of kind " + kind, seen[kind]);
        }
    }

    /** From 0 on, and less than so much; -1 if that is 0. */
    private static void within(String what, int got, int beyond) {
        check.isTrue(what + " is " + got, beyond == 0 ? got == -1 : got >= 0 && got < beyond);
    }

    private static void lineCalls() {
        check.says("Throws `IndexOutOfBoundsException` if there is no such function, or no such line");
        check.says("Throws `IndexOutOfBoundsException` if there is no such function");
        Gearbox box = Tape.with("fun f(a){return a+1;}fun g(){}");
        box.allocate(3);
        int[] lines = {4, 2};
        for (int f = 0; f < 2; f++) {
            int function = f;
            check.same("lines", box.lines(f), lines[f]);
            check.same("the last line", box.codeKind(f, lines[f] - 1), 24);
            for (int line : new int[] {-1, lines[f], LEAST, MOST}) {
                noLine(box, function, line);
            }
        }
        Gearbox none = new Gearbox();
        for (int f : new int[] {-1, 2, LEAST, MOST}) {
            noLine(box, f, 0);
            noLine(box, f, -1);
            noCode(box, f);
            noCode(none, f);
        }
        noCode(none, 0);
        noLine(none, 0, 0);
    }

    private static void noCode(Gearbox box, int f) {
        check.refuses("lines of " + f, box, IndexOutOfBoundsException.class, () -> box.lines(f));
        check.refuses("slots of " + f, box, IndexOutOfBoundsException.class, () -> box.slots(f));
        check.refuses("united of " + f, box, IndexOutOfBoundsException.class, () -> box.united(f));
        check.refuses("rounds of " + f, box, IndexOutOfBoundsException.class, () -> box.rounds(f));
    }

    private static void noLine(Gearbox box, int f, int line) {
        check.refuses("codeKind of " + line, box, IndexOutOfBoundsException.class, () -> box.codeKind(f, line));
        check.refuses("codeGives of " + line, box, IndexOutOfBoundsException.class, () -> box.codeGives(f, line));
        check.refuses("codeLeft of " + line, box, IndexOutOfBoundsException.class, () -> box.codeLeft(f, line));
        check.refuses("codeRight of " + line, box, IndexOutOfBoundsException.class, () -> box.codeRight(f, line));
    }

    private static void withoutCode() {
        check.says("Creates a compiler without a program and without code, with an empty tape.");
        check.isTrue("meanCode of a new object", new Gearbox().meanCode() == 0.0);
        Gearbox box = Tape.with("fun f(a,b){if a{b=a;}return b;}fun g(){}");
        isWithoutCode(box);
        box.allocate(3);
        check.isTrue("there is code", box.lines(0) > 0 && box.lines(1) > 0 && box.united(0) > 0 && box.rounds(0) > 0);
        box.restore();
        isWithoutCode(box);
        box.allocate(3);
        Tape.load(box, "fun f(a,b){if a{b=a;}return b;}fun g(){}");
        isWithoutCode(box);
        // Code is left by all that does not make new one.
        box.allocate(3);
        String code = Dump.code(box, 0);
        Tape.load(box, "x");
        box.settle();
        box.run(0, 0, 1, 2, 3, 4);
        box.differences(0, 0, 0);
        check.same("code", Dump.code(box, 0), code);
    }

    private static void newCode() {
        check.says("Makes code of all functions (section 5), in place of code that is there.");
        Gearbox box = Tape.with("fun f(a,b,c,d){return a+b+c;}fun g(a){if 0{a=7;}return a;}");
        box.allocate(3);
        String first = Dump.all(box);
        box.allocate(8);
        check.isTrue("with 8 registers it is another one", !first.equals(Dump.all(box)));
        check.same("slots with 8", box.slots(0), 0);
        box.allocate(3);
        check.same("with 3 it is as it was", Dump.all(box), first);
        int before = box.lines(1);
        box.settle();
        check.same("lines behind settle", box.lines(1), before);
        box.allocate(3);
        check.same("lines of new code", box.lines(1), 2);
    }

    /** Code of 60 blocks and of 250 values. */
    private static void mostOfAll() {
        check.says("Returns how many lines all functions have together;");
        String blocks = "fun f(a){" + "if a{}".repeat(19) + "if a{return 1;}}";
        String values = "fun g(a){" + ("a=1" + "+1".repeat(9) + ";").repeat(6) + "a=1;".repeat(40) + "return a;}";
        for (int k = 3; k <= 8; k++) {
            // Each if makes a fork and a jump, the last one two returns with a number each.
            check.same("lines of 60 blocks", Tape.with(blocks).allocate(k), 1 + 2 * 19 + 1 + 4);
            // A parameter, six times ten numbers and nine sums, forty numbers, and a return.
            check.same("lines of many values", Tape.with(values).allocate(k), 1 + 6 * 19 + 40 + 1);
        }
    }
}
