/** Promises 33 to 41: allocate, lines, code, slots, united, rounds. */
public final class CodeTest {
    private static final Check check = new Check("CodeTest");
    private static final String[] SQUARES = {"r2=par0", "r1=par1", "r0=par2", "slot1=r0", "r0=par3", "slot0=r0",
        "r0=r2*r2", "slot2=r0", "r1=r1*r1", "r0=slot1", "r2=r0*r0", "r0=slot0", "r0=r2+r0", "r1=r1+r0", "r0=slot2",
        "r0=r0+r1", "return r0"};

    public static void main(String[] args) {
        plain();
        forks();
        copies();
        slots();
        numbersWithoutSlots();
        states();
        wrong();
        check.end();
    }

    /** Makes code, and compares it and how it came about. */
    private static void are(Gearbox box, int registers, int slots, int united, int rounds, String... lines) {
        String what = "allocate(" + registers + ")";
        check.same(what, box.allocate(registers), lines.length);
        check.same("lines of " + what, box.lines(0), lines.length);
        check.same("slots of " + what, box.slots(0), slots);
        check.same("united of " + what, box.united(0), united);
        check.same("rounds of " + what, box.rounds(0), rounds);
        String due = String.join("\n", lines) + "\n";
        String got = Dump.code(box, 0);
        check.isTrue(what + ": due is\n" + due + "there is\n" + got + "this", got.equals(due));
        check.isTrue("meanCode of " + what, box.meanCode() == lines.length);
    }

    private static void plain() {
        // The values that are taken away first get registers last.
        are(Tape.with("fun f(a,b){return a/b;}"), 3, 0, 0, 1, "r1=par0", "r0=par1", "r0=r1/r0", "return r0");
        are(Tape.with("fun f(a,b){[a]=f(b,7);return [a];}"), 3, 0, 0, 1,
            "r1=par0", "r2=par1", "r0=7", "arg(r2)", "arg(r0)", "r0=call0", "[r1]=r0", "r0=[r1]", "return r0");
        are(Tape.with("fun f(a){return 1;}"), 8, 0, 0, 1, "r0=par0", "r0=1", "return r0");
    }

    private static void forks() {
        // The second block never comes next but where the first one stands elsewhere.
        are(Tape.with("fun f(a){if a{a=1;}else{a=2;}return a;}"), 3, 0, 2, 1,
            "r0=par0", "if !r0 go 4", "r0=1", "go 5", "r0=2", "return r0");
        are(Tape.with("fun f(a,b){while a{if b{continue;}if a>b{break;}a=a-1;}return b;}"), 3, 0, 2, 1,
            "r2=par0", "r1=par1", "if !r2 go 11", "if !r1 go 5", "go 2", "r0=r2>r1", "if !r0 go 8", "go 11", "r0=1",
            "r2=r2-r0", "go 2", "return r1");
        // With || the way past its right side is the first one.
        Gearbox box = Tape.with("fun f(a,b){return a||b;}");
        are(box, 3, 0, 2, 1, "r2=par0", "r1=par1", "r0=0", "r0=r2!=r0", "if !r0 go 6", "go 8", "r0=0", "r0=r1!=r0",
            "return r0");
        // A loop that goes nowhere else.
        box = Tape.with("fun f(a){if a{return 1;}while 1{}}");
        box.fold();
        are(box, 3, 0, 0, 1, "r0=par0", "if !r0 go 4", "r0=1", "return r0", "r0=1", "go 4");
    }

    private static void copies() {
        are(Tape.with("fun f(a,b){while b{var t=a%b;a=b;b=t;}return a;}"), 3, 0, 2, 1,
            "r2=par0", "r1=par1", "if !r1 go 7", "r0=r2%r1", "r2=r1", "r1=r0", "go 2", "return r2");
        // Two that change places need a third one for it.
        are(Tape.with("fun f(a,b,n){while n{var t=a;a=b;b=t;n=n-1;}return a-b;}"), 4, 0, 4, 1,
            "r3=par0", "r2=par1", "r1=par2", "if !r1 go 10", "r0=1", "r1=r1-r0", "r0=r3", "r3=r2", "r2=r0", "go 3",
            "r0=r3-r2", "return r0");
    }

    private static void slots() {
        are(Tape.with("fun f(a,b,n){while n{var t=a;a=b;b=t;n=n-1;}return a-b;}"), 3, 1, 1, 2,
            "r0=par0", "r1=par1", "r2=par2", "slot0=r0", "if !r2 go 11", "r0=1", "r2=r2-r0", "r0=slot0", "slot0=r1",
            "r1=r0", "go 4", "r0=slot0", "r0=r0-r1", "return r0");
        // Four values at once for three registers: that of the least cost for each neighbour goes, at first d; as
        // it comes back where three others live, c and a * a go in the second round.
        are(Tape.with("fun f(a,b,c,d){return a*a+(b*b+(c*c+d));}"), 3, 3, 0, 3, SQUARES);
    }

    private static void numbersWithoutSlots() {
        // The 5 is told again where it is used, and its own step is left out.
        Gearbox box = Tape.with("fun f(a,b){var c=[0];var d=[1];var e=[2];var g=5;while a{a=a-g;b=b+c*d;}"
            + "return a+b+c+d+e+g;}");
        are(box, 3, 4, 3, 3,
            "r2=par0", "r1=par1", "r0=0", "r0=[r0]", "slot0=r0", "r0=1", "r0=[r0]", "slot1=r0", "r0=2", "r0=[r0]",
            "slot2=r0", "if !r2 go 22", "r0=5", "r0=r2-r0", "slot3=r0", "r2=slot0", "r0=slot1", "r0=r2*r0",
            "r1=r1+r0", "r0=slot3", "r2=r0", "go 11", "r1=r2+r1", "r0=slot0", "r1=r1+r0", "r0=slot1", "r1=r1+r0",
            "r0=slot2", "r1=r1+r0", "r0=5", "r0=r1+r0", "return r0");
        for (int registers = 3; registers <= 8; registers++) {
            box.allocate(registers);
            box.run(2, 0, 20, 3, 0, 0);
            check.same("outcome with " + registers + " registers", box.outcome(), 0);
            check.same("result with " + registers + " registers", box.result(), 3 + 5);
        }
    }

    private static void states() {
        Gearbox box = Tape.with("fun f(a){return a+1;}fun g(a,b){return a;}");
        check.same("lines without code", box.lines(0), 0);
        check.same("slots without code", box.slots(0), 0);
        check.same("united without code", box.united(0), 0);
        check.same("rounds without code", box.rounds(0), 0);
        check.raises("codeKind without code", IndexOutOfBoundsException.class, () -> box.codeKind(0, 0));
        check.isTrue("meanCode without code", box.meanCode() == 0.0);
        String before = Dump.blocks(box, 0) + Dump.blocks(box, 1);
        check.same("allocate of two functions", box.allocate(3), 4 + 3);
        check.same("lines of the first", box.lines(0), 4);
        check.same("lines of the second", box.lines(1), 3);
        check.isTrue("meanCode", box.meanCode() == 3.5);
        check.isTrue("the blocks stay", before.equals(Dump.blocks(box, 0) + Dump.blocks(box, 1)));
        // The kinds of lines and what they hold, one by one.
        check.same("kind of line 0", box.codeKind(0, 0), 21);
        check.same("line 0 gives", box.codeGives(0, 0), 1);
        check.same("line 0 left", box.codeLeft(0, 0), 0);
        check.same("line 0 right", box.codeRight(0, 0), -1);
        check.same("kind of line 1", box.codeKind(0, 1), 0);
        check.same("line 1 left", box.codeLeft(0, 1), 1);
        check.same("line 1 right", box.codeRight(0, 1), -1);
        check.same("kind of line 3", box.codeKind(0, 3), 24);
        check.same("line 3 gives", box.codeGives(0, 3), -1);
        check.same("line 3 right", box.codeRight(0, 3), -1);
        // New code comes in place of the code that is there.
        box.drop();
        check.same("allocate behind drop", box.allocate(8), 4 + 2);
        box.restore();
        check.same("lines behind restore", box.lines(0), 0);
        check.isTrue("meanCode behind restore", box.meanCode() == 0.0);
    }

    private static void wrong() {
        Gearbox box = Tape.with("fun f(a){return a+1;}");
        box.allocate(3);
        long before = box.digest();
        for (int registers : new int[] {2, 9, 0, -1, Integer.MIN_VALUE, Integer.MAX_VALUE}) {
            check.raises("allocate(" + registers + ")", IllegalArgumentException.class, () -> box.allocate(registers));
        }
        Gearbox none = new Gearbox();
        check.raises("allocate(2) without a program", IllegalArgumentException.class, () -> none.allocate(2));
        check.raises("allocate(3) without a program", IllegalStateException.class, () -> none.allocate(3));
        for (int f : new int[] {-1, 1, Integer.MIN_VALUE, Integer.MAX_VALUE}) {
            raises("lines of " + f, () -> box.lines(f));
            raises("slots of " + f, () -> box.slots(f));
            raises("united of " + f, () -> box.united(f));
            raises("rounds of " + f, () -> box.rounds(f));
            lineCalls(box, f, 0);
        }
        for (int line : new int[] {-1, 4, Integer.MIN_VALUE, Integer.MAX_VALUE}) {
            lineCalls(box, 0, line);
        }
        check.same("nothing has changed", box.digest(), before);
    }

    private static void lineCalls(Gearbox box, int f, int line) {
        String of = " of function " + f + " and line " + line;
        raises("codeKind" + of, () -> box.codeKind(f, line));
        raises("codeGives" + of, () -> box.codeGives(f, line));
        raises("codeLeft" + of, () -> box.codeLeft(f, line));
        raises("codeRight" + of, () -> box.codeRight(f, line));
    }

    private static void raises(String what, Runnable call) {
        check.raises(what, IndexOutOfBoundsException.class, call);
    }
}
