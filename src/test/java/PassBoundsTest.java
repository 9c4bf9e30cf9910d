/** Section 4 of the document and promises 27 to 32, sentence by sentence: at each bound, and one beyond it. */
public final class PassBoundsTest {
    private static final Check check = new Check("PassBoundsTest");
    private static final int FOLD = 0;
    private static final int SAME = 1;
    private static final int DROP = 2;
    private static final int LIFT = 3;
    private static final int MERGE = 4;

    public static void main(String[] args) {
        noProgram();
        allFunctions();
        codeStays();
        numbersStay();
        foldSteps();
        foldPhis();
        foldLoops();
        foldEnds();
        foldChanges();
        sameBlocks();
        samePhis();
        halfAlikePhis();
        sameNumbers();
        sameRules();
        sameSides();
        sameSteps();
        sameChanges();
        drops();
        lifts();
        merges();
        settles();
        oneBehindTheOther();
        mostOfAll();
        check.end();
    }

    // ---- what all of these need

    private static int pass(Gearbox box, int which) {
        switch (which) {
            case FOLD: return box.fold();
            case SAME: return box.same();
            case DROP: return box.drop();
            case LIFT: return box.lift();
            default: return box.merge();
        }
    }

    /** What a pass makes of function 0, and how many changes it tells; once more, it makes none. */
    private static void makes(int which, String text, int changes, String... blocks) {
        Gearbox box = Tape.with(text);
        makes(which, text, box, changes, blocks);
    }

    private static void makes(int which, String text, Gearbox box, int changes, String... blocks) {
        check.same("changes of '" + text + "'", pass(box, which), changes);
        check.same("blocks of '" + text + "'", Dump.blocks(box, 0), String.join("\n", blocks) + "\n");
        check.same("changes once more of '" + text + "'", pass(box, which), 0);
        check.same("blocks once more of '" + text + "'", Dump.blocks(box, 0), String.join("\n", blocks) + "\n");
    }

    /** What a pass makes of a function of one block. */
    private static void makesOne(int which, String text, int changes, String block) {
        makes(which, text, changes, "0 under -1 depth 0 from: " + block);
    }

    // ---- all passes

    private static void noProgram() {
        check.says("Creates a compiler without a program and without code, with an empty tape.");
        Gearbox box = new Gearbox();
        long digest = box.digest();
        for (int which = FOLD; which <= MERGE; which++) {
            check.same("pass " + which + " without a program", pass(box, which), 0);
        }
        check.same("settle without a program: once, without a change", box.settle(), 1);
        check.same("digest", box.digest(), digest);
    }

    private static void allFunctions() {
        check.says("Each pass works on the blocks of all functions, one function by one, and tells how many changes it made.");
        String body = "(a){while a{a=a-(2-1);[a]=a+0;}var x=3;if 1{return a*1;}return 2;}";
        Gearbox one = Tape.with("fun f" + body);
        Gearbox six = Tape.with("fun f" + body + "fun g" + body + "fun h" + body + "fun i" + body + "fun j" + body + "fun k"
            + body);
        for (int which : new int[] {LIFT, FOLD, SAME, DROP, MERGE}) {
            int changes = pass(one, which);
            check.isTrue("there are changes of pass " + which, changes > 0);
            check.same("changes of six functions", pass(six, which), 6 * changes);
            for (int f = 0; f < 6; f++) {
                check.same("blocks of function " + f, Dump.blocks(six, f), Dump.blocks(one, 0));
            }
        }
        check.same("settle of one", Tape.with("fun f" + body).settle(), 2);
        check.same("settle of six: all together", Tape.with("fun f" + body + "fun g" + body + "fun h" + body).settle(), 2);
        // The one that takes longest counts.
        Gearbox two = Tape.with("fun f(){}fun g" + body);
        int alone = Tape.with("fun g" + body).settle();
        check.same("settle of two", two.settle(), alone);
    }

    private static void codeStays() {
        check.says("Code that is there stays.");
        for (int which = FOLD; which <= MERGE + 1; which++) {
            Gearbox box = Tape.with("fun f(a){while a{a=a-(2+3);[1]=2+a*0;}if 0{a=a/1;}return a;}fun g(){}");
            box.allocate(3);
            String code = Dump.code(box, 0) + Dump.code(box, 1);
            double mean = box.meanCode();
            int changes = which > MERGE ? box.settle() : pass(box, which);
            check.isTrue("there are changes of pass " + which, changes > 0 || which == MERGE || which == DROP);
            check.same("code behind pass " + which, Dump.code(box, 0) + Dump.code(box, 1), code);
            check.isTrue("meanCode behind pass " + which, box.meanCode() == mean);
            check.same("run of the code", box.run(2, 0, 10, 0, 0, 0), 0);
            check.same("word 1", box.word(1), 2);
            check.same("run of the blocks", box.run(1, 0, 10, 0, 0, 0), 0);
            check.same("word 1", box.word(1), 2);
        }
    }

    private static void numbersStay() {
        check.says("Values keep their numbers; those that are left out are gone.");
        Gearbox box = Tape.with("fun f(a,b){var c=a+b;var d=b+a;return d;}");
        check.same("same", box.same(), 1);
        check.same("the value that stands", box.endValue(0, 0), 2);
        check.same("block of the one that is gone", box.blockOf(0, 3), -1);
        check.same("values", box.values(0), 3);
        check.says("Behind a pass that leaves out blocks or merges them, blocks are numbered anew as in section 3, and dominators "
            + "and loops are those of the blocks that are there then.");
        makes(FOLD, "fun f(a){while a{if 1{break;}a=a-1;}if a{return 1;}return 2;}", 1,
            "0 under -1 depth 0 from: v0=par0 go 1",
            "1 under 0 depth 0 from 0: v1=phi(v0) ? v1 2 4",
            "2 under 1 depth 0 from 1: v2=1 go 3",
            "3 under 2 depth 0 from 2: go 5",
            "4 under 1 depth 0 from 1: go 5",
            "5 under 1 depth 0 from 3 4: ? v1 6 7",
            "6 under 5 depth 0 from 5: v5=1 return v5",
            "7 under 5 depth 0 from 5: v6=2 return v6");
        makes(MERGE, "fun f(a){if a{if 1{[1]=1;}else{return 3;}}return 2;}",
            after("fun f(a){if a{if 1{[1]=1;}else{return 3;}}return 2;}", FOLD), 2,
            "0 under -1 depth 0 from: v0=par0 ? v0 1 2",
            "1 under 0 depth 0 from 0: v1=1 v2=1 v3=1 [v2]=v3 go 3",
            "2 under 0 depth 0 from 0: go 3",
            "3 under 0 depth 0 from 1 2: v5=2 return v5");
    }

    private static Gearbox after(String text, int... passes) {
        Gearbox box = Tape.with(text);
        for (int which : passes) {
            pass(box, which);
        }
        return box;
    }

    // ---- fold

    private static void foldSteps() {
        check.says("a step 0 of a reached block is known to be its number; 17, 20 and 21 are known to vary;");
        makesOne(FOLD, "fun f(a){return 1+2*3-4;}", 3, "v0=par0 v1=1 v2=2 v3=3 v4=6 v5=7 v6=4 v7=3 return v7");
        makesOne(FOLD, "fun f(a){return [1]+f(2)+a;}", 0,
            "v0=par0 v1=1 v2=[v1] v3=2 arg(v3) v4=call0 v5=v2+v4 v6=v5+v0 return v6");
        check.says("a step 1 to 16 of a reached block varies if a value that it uses varies, or if / or % would be by 0; otherwise it "
            + "is the number that comes out, if both its values are numbers.");
        makesOne(FOLD, "fun f(a){return a*0+0*a+(a-a)+(a&0)+a%1+(0<<a);}", 0,
            "v0=par0 v1=0 v2=v0*v1 v3=0 v4=v3*v0 v5=v2+v4 v6=v0-v0 v7=v5+v6 v8=0 v9=v0&v8 v10=v7+v9 v11=1 v12=v0%v11 v13=v10+v12 "
                + "v14=0 v15=v14<<v0 v16=v13+v15 return v16");
        makesOne(FOLD, "fun f(){return 5/0;}", 0, "v0=5 v1=0 v2=v0/v1 return v2");
        makesOne(FOLD, "fun f(){return 5%0;}", 0, "v0=5 v1=0 v2=v0%v1 return v2");
        makesOne(FOLD, "fun f(){return 0/0;}", 0, "v0=0 v1=0 v2=v0/v1 return v2");
        makesOne(FOLD, "fun f(){return 5/1+5%1;}", 3, "v0=5 v1=1 v2=5 v3=5 v4=1 v5=0 v6=5 return v6");
        makesOne(FOLD, "fun f(){return 0/5+0%5;}", 3, "v0=0 v1=5 v2=0 v3=0 v4=5 v5=0 v6=0 return v6");
        makesOne(FOLD, "fun f(){return 5/(1-1)*0;}", 1, "v0=5 v1=1 v2=1 v3=0 v4=v0/v3 v5=0 v6=v4*v5 return v6");
        makesOne(FOLD, "fun f(){return 999999999*3;}", 1,
            "v0=999999999 v1=3 v2=-1294967299 return v2");
        makesOne(FOLD, "fun f(){return (1<<31)/(0-1);}", 3, "v0=1 v1=31 v2=-2147483648 v3=0 v4=1 v5=-1 v6=-2147483648 return v6");
        makesOne(FOLD, "fun f(){return (1<<31)%(0-1);}", 3, "v0=1 v1=31 v2=-2147483648 v3=0 v4=1 v5=-1 v6=0 return v6");
        makesOne(FOLD, "fun f(){return 1<<32;}", 1, "v0=1 v1=32 v2=1 return v2");
    }

    /** How many changes fold makes where x gets one number or another one in two ways. */
    private static void joined(String ahead, String one, String other, int changes, String given) {
        String text = "fun f(a,b){var x=" + ahead + ";if a{x=" + one + ";}else{x=" + other + ";}return x;}";
        Gearbox box = Tape.with(text);
        check.same("fold of " + text, box.fold(), changes);
        check.same("what there is", Dump.blocks(box, 0).split("\n")[3].replaceAll("v\\d+", "v"), "3 under 0 depth 0 from 1 2: " + given);
    }

    private static void foldPhis() {
        check.says("A phi of a reached block is what its values are from predecessors whose way to it is reached: if these, as far as "
            + "something is known of them, are one number, this; if one varies, or two are different numbers, it varies.");
        joined("0", "7", "7", 1, "v=7 return v");
        joined("0", "7", "3+4", 2, "v=7 return v");
        joined("0", "7", "8", 0, "v=phi(v,v) return v");
        joined("0", "0", "1", 0, "v=phi(v,v) return v");
        joined("0", "b", "b", 0, "v=phi(v,v) return v");
        joined("0", "7", "b", 0, "v=phi(v,v) return v");
        joined("0", "b", "7", 0, "v=phi(v,v) return v");
        joined("0", "7", "7/0", 0, "v=phi(v,v) return v");
        // From one way alone: what is not reached does not count.
        makes(FOLD, "fun f(a){var x=1;if 0{x=a;}return x+1;}", 3,
            "0 under -1 depth 0 from: v0=par0 v1=1 v2=0 go 1",
            "1 under 0 depth 0 from 0: go 2",
            "2 under 1 depth 0 from 1: v3=1 v4=1 v5=2 return v5");
        makes(FOLD, "fun f(a){var x=1;if 1{x=a;}return x+1;}", 1,
            "0 under -1 depth 0 from: v0=par0 v1=1 v2=1 go 1",
            "1 under 0 depth 0 from 0: go 2",
            "2 under 1 depth 0 from 1: v3=phi(v0) v4=1 v5=v3+v4 return v5");
        check.says("each phi that is one becomes a step 0 ahead of all steps (several in the order of the phis);");
        makes(FOLD, "fun f(a){var x=1;var y=2;var z=a;var w=3;if a{x=1;y=2;z=5;w=3;}return (9+x+y+z)*w;}", 5,
            "0 under -1 depth 0 from: v0=par0 v1=1 v2=2 v3=3 ? v0 1 2",
            "1 under 0 depth 0 from 0: v4=1 v5=2 v6=5 v7=3 go 3",
            "2 under 0 depth 0 from 0: go 3",
            "3 under 0 depth 0 from 1 2: v10=phi(v6,v0) v8=1 v9=2 v11=3 v12=9 v13=10 v14=12 v15=v14+v10 v16=v15*v11 return v16");
    }

    private static void foldLoops() {
        check.says("Going on as long as anything is new:");
        check.says("(What is known only goes from nothing to a number to varying.)");
        // What a loop changes to the number that it was stays that number.
        makes(FOLD, "fun f(a){var x=1;while a{x=2-x;a=a-1;}return x;}", 2,
            "0 under -1 depth 0 from: v0=par0 v1=1 go 1",
            "1 under 0 depth 1 from 0 2: v2=phi(v0,v7) v3=1 ? v2 2 3",
            "2 under 1 depth 1 from 1: v4=2 v5=1 v6=1 v7=v2-v6 go 1",
            "3 under 1 depth 0 from 1: return v3");
        makes(FOLD, "fun f(a){var x=1;while a{x=3-x;a=a-1;}return x;}", 0,
            "0 under -1 depth 0 from: v0=par0 v1=1 go 1",
            "1 under 0 depth 1 from 0 2: v2=phi(v0,v7) v3=phi(v1,v5) ? v2 2 3",
            "2 under 1 depth 1 from 1: v4=3 v5=v4-v3 v6=1 v7=v2-v6 go 1",
            "3 under 1 depth 0 from 1: return v3");
        // What the innermost of three loops changes is known to vary in all of them, though no step tells it.
        check.same("fold of loops in each other",
            Tape.with("fun f(a,b){var x=1;while a{while a{while a{x=b;}}}return x;}").fold(), 0);
        check.same("fold of seven loops", Tape.with("fun f(a,b){var x=1;" + "while a{".repeat(7) + "x=b;" + "}".repeat(7)
            + "return x;}").fold(), 0);
        check.same("fold of seven loops, with the number that it was: seven phis", Tape.with("fun f(a,b){var x=1;"
            + "while a{".repeat(7) + "x=1;" + "}".repeat(7) + "return x;}").fold(), 7);
        // A chain of loops, each of which is reached only as the one ahead is known to vary.
        makes(FOLD, "fun f(a){var x=0;var y=0;while x<3{if y{x=5;}x=x+1;y=x;}return y;}", 0,
            "0 under -1 depth 0 from: v0=par0 v1=0 v2=0 go 1",
            "1 under 0 depth 1 from 0 5: v3=phi(v1,v10) v4=phi(v2,v10) v5=3 v6=v3<v5 ? v6 2 6",
            "2 under 1 depth 1 from 1: ? v4 3 4",
            "3 under 2 depth 1 from 2: v7=5 go 5",
            "4 under 2 depth 1 from 2: go 5",
            "5 under 2 depth 1 from 3 4: v8=phi(v7,v3) v9=1 v10=v8+v9 go 1",
            "6 under 1 depth 0 from 1: return v4");
    }

    private static void foldEnds() {
        check.says("of an end 23 both, if the value varies; if it is a number, the one that it takes;");
        check.says("each end 23 of a reached block by a number becomes an end 22;");
        for (String test : new String[] {"1", "2", "-1", "1<<31", "!0", "256", "5-4"}) {
            Gearbox box = Tape.with("fun f(a){if " + test + "{return 1;}return a;}");
            box.fold();
            check.same("end of " + test, box.endOf(0, 0), 22);
            check.same("way of " + test, box.successor(0, 0, false), 1);
            check.same("no other way of " + test, box.successor(0, 0, true), -1);
            check.same("no value of the end of " + test, box.endValue(0, 0), -1);
            check.same("blocks of " + test, box.blocks(0), 2);
            check.same("kind of what is returned", box.kindOf(0, 1, 0), 0);
        }
        for (String test : new String[] {"0", "!1", "-0", "1-1", "1<<32>>1", "0*5"}) {
            Gearbox box = Tape.with("fun f(a){if " + test + "{return 1;}return a;}");
            box.fold();
            check.same("end of " + test, box.endOf(0, 0), 22);
            check.same("no other way of " + test, box.successor(0, 0, true), -1);
            check.same("blocks of " + test, box.blocks(0), 2);
            check.same("what is returned", box.endValue(0, 1), 0);
        }
        for (String test : new String[] {"a", "[1]", "f(1)", "a*0", "1/0", "0%0"}) {
            Gearbox box = Tape.with("fun f(a){if " + test + "{return 1;}return a;}");
            box.fold();
            check.same("end of " + test, box.endOf(0, 0), 23);
            check.same("blocks of " + test, box.blocks(0), 3);
        }
        check.says("ways and blocks that were not reached are left out, and the values of phis from them.");
        makes(FOLD, "fun f(a){var x=a;while a{if 0{x=2;continue;}if 0{x=3;break;}a=a-1;}return x;}", 2,
            "0 under -1 depth 0 from: v0=par0 go 1",
            "1 under 0 depth 1 from 0 4: v1=phi(v0,v8) v2=phi(v0,v2) ? v1 2 5",
            "2 under 1 depth 1 from 1: v3=0 go 3",
            "3 under 2 depth 1 from 2: v5=0 go 4",
            "4 under 3 depth 1 from 3: v7=1 v8=v1-v7 go 1",
            "5 under 1 depth 0 from 1: go 6",
            "6 under 5 depth 0 from 5: v9=phi(v2) return v9");
    }

    private static void foldChanges() {
        check.says("Changes: steps and phis that became numbers, ends that changed.");
        check.same("a number is none", Tape.with("fun f(){return 7;}").fold(), 0);
        check.same("a step", Tape.with("fun f(){return 7+0;}").fold(), 1);
        check.same("two steps", Tape.with("fun f(){return 7+0+0;}").fold(), 2);
        check.same("an end", Tape.with("fun f(){if 1{return 2;}return 3;}").fold(), 1);
        check.same("a step and an end", Tape.with("fun f(){if !1{return 2;}return 3;}").fold(), 2);
        check.same("a phi", Tape.with("fun f(a){var x=1;if a{x=1;}return x;}").fold(), 1);
        check.same("what is not reached is none", Tape.with("fun f(a){if 0{return 1+2+3;}return 3;}").fold(), 1);
        check.same("the end of a while", Tape.with("fun f(a){while 0{a=1;}return a;}").fold(), 1);
    }

    // ---- same

    private static void sameBlocks() {
        check.says("Blocks are gone through from block 0: a block, then those whose dominator it is, by numbers, each with all below "
            + "it likewise.");
        check.says("if a step that was gone through ahead, for which none stands, in this block or in one that dominates it, has the "
            + "same kind and the same number, or the same left and right value, that one stands for it.");
        // In this block, in the block above, and in that above it.
        makes(SAME, "fun f(a,b){var x=a*b;if a{x=a*b+1;if b{x=a*b;[x]=a*b;}}return x;}", 3,
            "0 under -1 depth 0 from: v0=par0 v1=par1 v2=v0*v1 ? v0 1 5",
            "1 under 0 depth 0 from 0: v4=1 v5=v2+v4 ? v1 2 3",
            "2 under 1 depth 0 from 1: [v2]=v2 go 4",
            "3 under 1 depth 0 from 1: go 4",
            "4 under 1 depth 0 from 2 3: v8=phi(v2,v5) go 6",
            "5 under 0 depth 0 from 0: go 6",
            "6 under 0 depth 0 from 4 5: v9=phi(v8,v2) return v9");
        // Not in one beside it, though it was gone through ahead.
        makes(SAME, "fun f(a,b){if a{[1]=a*b;}else{[2]=a*b;}return a*b;}", 0,
            "0 under -1 depth 0 from: v0=par0 v1=par1 ? v0 1 2",
            "1 under 0 depth 0 from 0: v2=1 v3=v0*v1 [v2]=v3 go 3",
            "2 under 0 depth 0 from 0: v4=2 v5=v0*v1 [v4]=v5 go 3",
            "3 under 0 depth 0 from 1 2: v6=v0*v1 return v6");
    }

    private static void samePhis() {
        check.says("A phi: if all its values but itself are one value, this stands for it.");
        makes(SAME, "fun f(a,b){if a{b=b;}return b;}", 1,
            "0 under -1 depth 0 from: v0=par0 v1=par1 ? v0 1 2",
            "1 under 0 depth 0 from 0: go 3",
            "2 under 0 depth 0 from 0: go 3",
            "3 under 0 depth 0 from 1 2: return v1");
        makes(SAME, "fun f(a,b){while a{a=a-1;b=b;}return b;}", 1,
            "0 under -1 depth 0 from: v0=par0 v1=par1 go 1",
            "1 under 0 depth 1 from 0 2: v2=phi(v0,v5) ? v2 2 3",
            "2 under 1 depth 1 from 1: v4=1 v5=v2-v4 go 1",
            "3 under 1 depth 0 from 1: return v1");
        makes(SAME, "fun f(a,b){if a{b=a;}return b;}", 0,
            "0 under -1 depth 0 from: v0=par0 v1=par1 ? v0 1 2",
            "1 under 0 depth 0 from 0: go 3",
            "2 under 0 depth 0 from 0: go 3",
            "3 under 0 depth 0 from 1 2: v2=phi(v0,v1) return v2");
        // Of one way alone, behind fold.
        makes(SAME, "phi of one way", after("fun f(a,b){if 1{b=a;}return b;}", FOLD), 1,
            "0 under -1 depth 0 from: v0=par0 v1=par1 v2=1 go 1",
            "1 under 0 depth 0 from 0: go 2",
            "2 under 1 depth 0 from 1: return v0");
        check.says("Otherwise, if a phi ahead of it in the block, for which none stands, has the same values, each from the same "
            + "predecessor, the first such one does.");
        makes(SAME, "fun f(a,b){var c=a;var d=b;var e=a;var g=b;if a{c=b;d=a;e=b;g=a;}return c*d-e/g;}", 2,
            "0 under -1 depth 0 from: v0=par0 v1=par1 ? v0 1 2",
            "1 under 0 depth 0 from 0: go 3",
            "2 under 0 depth 0 from 0: go 3",
            "3 under 0 depth 0 from 1 2: v2=phi(v1,v0) v3=phi(v0,v1) v6=v2*v3 v7=v2/v3 v8=v6-v7 return v8");
    }

    /** Two phis that are alike from one predecessor alone. */
    private static void halfAlikePhis() {
        check.says("has the same values, each from the same predecessor,");
        for (String way : new String[] {"c=a;d=b;}else{c=1;d=c;", "c=1;d=c;}else{c=a;d=b;", "c=a;d=b;}else{c=b;d=a;"}) {
            Gearbox box = Tape.with("fun f(a,b){var c=0;var d=0;if a{" + way + "}return c-d;}");
            check.same("phis of " + way, box.phis(0, 3), 2);
            box.same();
            check.same("phis behind same of " + way, box.phis(0, 3), 2);
        }
        Gearbox box = Tape.with("fun f(a,b){var c=0;var d=0;if a{c=a;d=a;}else{c=b;d=b;}return c-d;}");
        box.same();
        check.same("phis that are alike", box.phis(0, 3), 1);
    }

    /** What same makes of a test that is returned: the number that it becomes. */
    private static void zeroOrOne(String test, int due) {
        Gearbox box = Tape.with("fun f(a,b){return " + test + ";}");
        boolean hasSuch = test.contains("0") && due == 0 || test.contains("1") && due == 1;
        int values = box.values(0);
        check.same("changes of " + test, box.same(), 1);
        check.same("values of " + test, box.values(0), hasSuch ? values - 1 : values);
        int step = 0;
        while (box.gives(0, 0, step) != box.endValue(0, 0)) {
            step++;
        }
        check.same("kind of " + test, box.kindOf(0, 0, step), 0);
        check.same("number of " + test, box.leftOf(0, 0, step), due);
    }

    private static void stands(String test, int due) {
        Gearbox box = Tape.with("fun f(a,b){return " + test + ";}");
        int values = box.values(0);
        check.same("changes of " + test, box.same(), 1);
        check.same("what stands for " + test, box.endValue(0, 0), due);
        check.same("values of " + test, box.values(0), values - 1);
    }

    private static void stays(String test) {
        Gearbox box = Tape.with("fun f(a,b){return " + test + ";}");
        String before = Dump.blocks(box, 0);
        check.same("changes of " + test, box.same(), 0);
        check.same("what there is of " + test, Dump.blocks(box, 0), before);
    }

    private static void sameNumbers() {
        check.says("if both are numbers, and it is not / or % by 0, it becomes the step 0 of what comes out.");
        makesOne(SAME, "fun f(){return 14+(2+3*4);}", 3, "v0=14 v1=2 v2=3 v3=4 v4=12 v6=28 return v6");
        makesOne(SAME, "fun f(){return 6/2;}", 1, "v0=6 v1=2 v2=3 return v2");
        makesOne(SAME, "fun f(){return 6%4;}", 1, "v0=6 v1=4 v2=2 return v2");
        makesOne(SAME, "fun f(){return 5/0;}", 0, "v0=5 v1=0 v2=v0/v1 return v2");
        makesOne(SAME, "fun f(){return 5%0;}", 0, "v0=5 v1=0 v2=v0%v1 return v2");
        makesOne(SAME, "fun f(){return 0/0;}", 1, "v0=0 v2=v0/v0 return v2");
        makesOne(SAME, "fun f(){return 0%0;}", 1, "v0=0 v2=v0%v0 return v2");
        makesOne(SAME, "fun f(){return 1/0*0;}", 2, "v0=1 v1=0 v2=v0/v1 return v1");
        makesOne(SAME, "fun f(){return (1<<31)/(0-1);}", 4,
            "v0=1 v1=31 v2=-2147483648 v3=0 v5=-1 return v2");
        makesOne(SAME, "fun f(){return (1<<31)%(0-1);}", 4, "v0=1 v1=31 v2=-2147483648 v3=0 v5=-1 return v3");
        makesOne(SAME, "fun f(){return 1<<32;}", 1, "v0=1 v1=32 return v0");
        makesOne(SAME, "fun f(){return 999999999*3;}", 1, "v0=999999999 v1=3 v2=-1294967299 return v2");
        check.says("(A value is a number, if it is given by a step 0.)");
        // Not if a phi gives it; but if a step 0 stands for it.
        makes(SAME, "fun f(a){var x=0;if a{x=1;}return a+x;}", 0,
            "0 under -1 depth 0 from: v0=par0 v1=0 ? v0 1 2",
            "1 under 0 depth 0 from 0: v2=1 go 3",
            "2 under 0 depth 0 from 0: go 3",
            "3 under 0 depth 0 from 1 2: v3=phi(v2,v1) v4=v0+v3 return v4");
        makes(SAME, "fun f(a){var x=1;if a{x=1;}return x+1;}", 4,
            "0 under -1 depth 0 from: v0=par0 v1=1 ? v0 1 2",
            "1 under 0 depth 0 from 0: go 3",
            "2 under 0 depth 0 from 0: go 3",
            "3 under 0 depth 0 from 1 2: v5=2 return v5");
    }

    private static void sameRules() {
        check.says("Otherwise: x + 0, 0 + x, x - 0, x * 1, 1 * x, x / 1, x | 0, 0 | x, x ^ 0, 0 ^ x, x << 0, x >> 0: x stands for it;");
        for (String test : new String[] {"a+0", "0+a", "a-0", "a*1", "1*a", "a/1", "a|0", "0|a", "a^0", "0^a", "a<<0", "a>>0"}) {
            stands(test, 0);
            stands(test.replace('a', 'b'), 1);
        }
        for (String test : new String[] {"a+1", "1+a", "a-1", "0-a", "1-a", "a*2", "2*a", "a/2", "0/a", "1/a", "a/0", "a|1", "1|a",
            "a^1", "1^a", "a<<1", "a>>1", "0<<a", "0>>a", "1<<a", "a<<32", "a>>32", "a<<31", "-a"}) {
            if (!isSwapped(test)) {
                stays(test);
            }
        }
        check.says("x & x and x | x: x stands for it;");
        stands("a&a", 0);
        stands("b|b", 1);
        stays("a&b");
        stays("a|b");
        check.says("x * 0, 0 * x, x & 0, 0 & x, x % 1, x - x, x ^ x, x != x, x < x, x > x: it becomes the step 0 of 0;");
        for (String test : new String[] {"a*0", "0*a", "a&0", "0&a", "a%1", "a-a", "a^a", "a!=a", "a<a", "a>a"}) {
            zeroOrOne(test, 0);
        }
        for (String test : new String[] {"a*b", "a&b", "a&1", "a%2", "a%0", "a%b", "0%a", "1%a", "a-b", "a^b", "a!=b", "a<b", "a>b",
            "a/a", "a%a", "a+a", "a*a", "a<<a", "a>>a", "a<0", "a>0", "a!=0"}) {
            stays(test);
        }
        check.says("x == x, x <= x, x >= x: it becomes the step 0 of 1.");
        for (String test : new String[] {"a==a", "a<=a", "a>=a", "b==b"}) {
            zeroOrOne(test, 1);
        }
        for (String test : new String[] {"a==b", "a<=b", "a>=b", "a==0", "a<=1", "a>=1"}) {
            stays(test);
        }
        check.says("Wherever a value is looked at, the one that stands for it is meant, and so on.");
        stands("(a+0)", 0);
        makesOne(SAME, "fun f(a,b){return (a+0)*1-(1*(a|0)/1);}", 9, "v0=par0 v1=par1 v2=0 v4=1 return v2");
    }

    /** Whether the sides of a test change places: 1 + a has a number behind a. */
    private static boolean isSwapped(String test) {
        return test.equals("1+a") || test.equals("2*a") || test.equals("1|a") || test.equals("1^a");
    }

    private static void sameSides() {
        check.says("Otherwise, for + * & | ^ == and != : if the number of the left value is greater than that of the right one, they "
            + "are changed with each other.");
        for (String operator : new String[] {"+", "*", "&", "|", "^", "==", "!=", "-", "/", "%", "<<", ">>", "<", "<=", ">", ">="}) {
            boolean isEither = "+ * & | ^ == !=".contains(operator);
            Gearbox box = Tape.with("fun f(a,b){return b" + operator + "a;}");
            check.same("changes of b" + operator + "a", box.same(), 0);
            check.same("left of b" + operator + "a", box.leftOf(0, 0, 2), isEither ? 0 : 1);
            check.same("right of b" + operator + "a", box.rightOf(0, 0, 2), isEither ? 1 : 0);
            box = Tape.with("fun f(a,b){return a" + operator + "b;}");
            check.same("changes of a" + operator + "b", box.same(), 0);
            check.same("left of a" + operator + "b", box.leftOf(0, 0, 2), 0);
            check.same("right of a" + operator + "b", box.rightOf(0, 0, 2), 1);
            // So one of two that are alike but for their sides stands for the other one.
            box = Tape.with("fun f(a,b){[a" + operator + "b]=b" + operator + "a;}");
            check.same("changes of both", box.same(), isEither ? 1 : 0);
        }
        makesOne(SAME, "fun f(a){return 1+a;}", 0, "v0=par0 v1=1 v2=v0+v1 return v2");
        makesOne(SAME, "fun f(a){return a+a;}", 0, "v0=par0 v1=v0+v0 return v1");
    }

    private static void sameSteps() {
        check.says("Then, for a step 0 to 16 for which none stands:");
        makesOne(SAME, "fun f(){[1]=1;[1]=1;}", 3, "v0=1 [v0]=v0 [v0]=v0 v4=0 return v4");
        makesOne(SAME, "fun f(a,b){[a-b]=a-b;[a<<b]=a<<b;[a<b]=a<b;[a/b]=a/b;[a%b]=a%b;}", 5,
            "v0=par0 v1=par1 v2=v0-v1 [v2]=v2 v4=v0<<v1 [v4]=v4 v6=v0<v1 [v6]=v6 v8=v0/v1 [v8]=v8 v10=v0%v1 [v10]=v10 v12=0 "
                + "return v12");
        // Of another kind, or another number, or other values: none. Nor of words and calls.
        makesOne(SAME, "fun f(a,b){[a-b]=b-a;[a<b]=a>b;[a]=[a];[b]=[a];f(a,b);f(a,b);}", 0,
            "v0=par0 v1=par1 v2=v0-v1 v3=v1-v0 [v2]=v3 v4=v0<v1 v5=v0>v1 [v4]=v5 v6=[v0] [v0]=v6 v7=[v0] [v1]=v7 arg(v0) arg(v1) "
                + "v8=call0 arg(v0) arg(v1) v9=call0 v10=0 return v10");
        // A step that becomes a number is one that was gone through ahead, and finds such.
        makesOne(SAME, "fun f(a){[a-a]=0;[0]=a^a;}", 5, "v0=par0 v1=0 [v1]=v1 [v1]=v1 return v1");
    }

    private static void sameChanges() {
        check.says("Behind all, phis and steps for which another one stands are left out, and all that use them use that one. "
            + "Changes: those left out, and those that became a step 0, each counted once.");
        check.same("none", Tape.with("fun f(a){return a+1;}").same(), 0);
        check.same("sides that change places are none", Tape.with("fun f(a){return 1+a;}").same(), 0);
        check.same("one left out", Tape.with("fun f(a){return a+0;}").same(), 1);
        check.same("one that became a number", Tape.with("fun f(a){return a-a;}").same(), 1);
        check.same("one that became a number and is left out", Tape.with("fun f(a){[0]=a-a;return 1;}").same(), 1);
        check.same("a number left out", Tape.with("fun f(){[1]=1;return 2;}").same(), 1);
        // All that use them: phis, steps, ends.
        makes(SAME, "fun f(a,b){var x=a+0;if x{b=x;}[x]=x;f(x,1);return b;}", 1,
            "0 under -1 depth 0 from: v0=par0 v1=par1 v2=0 ? v0 1 2",
            "1 under 0 depth 0 from 0: go 3",
            "2 under 0 depth 0 from 0: go 3",
            "3 under 0 depth 0 from 1 2: v4=phi(v0,v1) [v0]=v0 v5=1 arg(v0) arg(v5) v6=call0 return v4");
    }

    // ---- drop

    /** How many changes drop makes of a test whose value is not used. */
    private static void dropped(String test, int changes) {
        Gearbox box = Tape.with("fun f(a,b){var x=" + test + ";return 0;}");
        // The parameters are not wanted, but for what the test keeps.
        check.same("drop of " + test, box.drop(), changes);
        check.same("drop of " + test + " again", box.drop(), 0);
    }

    private static void drops() {
        check.says("Wanted are: what an end uses; what steps 18 and 19 use; a / or %, unless its right value is given by a step 0 that "
            + "is not 0;");
        dropped("a+b", 3);
        dropped("1", 3);
        dropped("[a]", 3);
        dropped("a/b", 0);
        dropped("a%b", 0);
        dropped("a/0", 1);
        dropped("a%0", 1);
        dropped("0/0", 2);
        dropped("a/1", 4);
        dropped("a%1", 4);
        dropped("a/2", 4);
        dropped("b%999999999", 4);
        // -1 is no step 0 till it is folded.
        dropped("a/(0-1)", 1);
        Gearbox folded = Tape.with("fun f(a,b){var x=a/(0-1);return 0;}");
        folded.fold();
        check.same("drop behind fold", folded.drop(), 6);
        dropped("a/(b/1)", 0);
        dropped("a/b*0+1", 4);
        dropped("f(a,b)", 0);
        dropped("f(1,2)", 2);
        dropped("f([a],1)", 1);
        makesOne(DROP, "fun f(a,b){[a]=b;}", 0, "v0=par0 v1=par1 [v0]=v1 v2=0 return v2");
        makes(DROP, "fun f(a,b){if b{}return a;}", 0,
            "0 under -1 depth 0 from: v0=par0 v1=par1 ? v1 1 2",
            "1 under 0 depth 0 from 0: go 3",
            "2 under 0 depth 0 from 0: go 3",
            "3 under 0 depth 0 from 1 2: return v0");
        check.says("and all that is used by a phi or step that gives a wanted value, or is wanted itself. Phis and steps of kinds 0 to 17 "
            + "and 21 whose value is not wanted are left out. Changes: those left out.");
        makesOne(DROP, "fun f(a,b){var c=a+1;var d=c*b;var e=d-2;var g=e%3;return d;}", 4,
            "v0=par0 v1=par1 v2=1 v3=v0+v2 v4=v3*v1 return v4");
        // Phis that only want each other are not wanted.
        makes(DROP, "fun f(a){var x=1;var y=2;while a{a=a-1;var t=x;x=y+1;y=t;}return 7;}", 6,
            "0 under -1 depth 0 from: v0=par0 go 1",
            "1 under 0 depth 1 from 0 2: v3=phi(v0,v7) ? v3 2 3",
            "2 under 1 depth 1 from 1: v6=1 v7=v3-v6 go 1",
            "3 under 1 depth 0 from 1: v10=7 return v10");
        // One that is wanted wants what it is made of, round the loop.
        makes(DROP, "fun f(a){var x=1;var y=2;while a{a=a-1;var t=x;x=y+1;y=t;}return y;}", 0,
            "0 under -1 depth 0 from: v0=par0 v1=1 v2=2 go 1",
            "1 under 0 depth 1 from 0 2: v3=phi(v0,v7) v4=phi(v1,v9) v5=phi(v2,v4) ? v3 2 3",
            "2 under 1 depth 1 from 1: v6=1 v7=v3-v6 v8=1 v9=v5+v8 go 1",
            "3 under 1 depth 0 from 1: return v5");
    }

    // ---- lift

    /** How many steps lift moves out of a loop with this in its block. */
    private static void lifted(String body, int moves) {
        Gearbox box = Tape.with("fun f(a,b){while a{" + body + "}return a;}");
        check.same("lift of " + body, box.lift(), moves);
        check.same("lift of " + body + " again", box.lift(), 0);
    }

    private static void lifts() {
        check.says("of kinds 0 to 16 (but / and % only if the right value is given by a step 0 that is not 0), whose values are all given "
            + "outside of the loop (also by what was moved just now), are moved to the end of the steps of that predecessor.");
        for (String operator : new String[] {"+", "-", "*", "&", "|", "^", "<<", ">>", "<", "<=", ">", ">=", "==", "!="}) {
            lifted("var x=b" + operator + "b;", 1);
            lifted("a=b" + operator + "a;", 0);
            lifted("a=a" + operator + "b;", 0);
        }
        lifted("", 0);
        lifted("var x=7;", 1);
        lifted("var x=b/b;", 0);
        lifted("var x=b%b;", 0);
        lifted("var x=b/0;", 1);
        lifted("var x=b%0;", 1);
        lifted("var x=b/1;", 2);
        lifted("var x=b%1;", 2);
        lifted("var x=0/b;", 1);
        lifted("var x=b/(0-1);", 3);
        lifted("var x=[b];", 0);
        lifted("[b]=b;", 0);
        lifted("f(b,b);", 0);
        lifted("var x=[b]+b;", 0);
        lifted("var x=b+1;var y=x*b;var z=y-a;a=z;", 3);
        lifted("var x=b+1;var y=x*b;var z=y-a;", 4);
        lifted("if a{var x=b+b;}", 1);
        lifted("if a{var x=b+b;break;}", 0);
        lifted("if a{var x=b+b;continue;}", 1);
        makes(LIFT, "fun f(a,b){while a{var x=b+1;a=x*a;}return a;}", 2,
            "0 under -1 depth 0 from: v0=par0 v1=par1 v3=1 v4=v1+v3 go 1",
            "1 under 0 depth 1 from 0 2: v2=phi(v0,v5) ? v2 2 3",
            "2 under 1 depth 1 from 1: v5=v4*v2 go 1",
            "3 under 1 depth 0 from 1: return v2");
        // Out of a loop of one block that leads to itself, the last one.
        makes(LIFT, "a loop of the last block", after("fun f(a){while 1{[a]=7;}}", FOLD, MERGE), 2,
            "0 under -1 depth 0 from: v0=par0 v1=1 v2=7 go 1",
            "1 under 0 depth 1 from 0 1: [v0]=v2 go 1");
        // In the test of the loop, too.
        makes(LIFT, "fun f(a,b){while a<b*2{a=a+1;}return a;}", 3,
            "0 under -1 depth 0 from: v0=par0 v1=par1 v3=2 v4=v1*v3 v6=1 go 1",
            "1 under 0 depth 1 from 0 2: v2=phi(v0,v7) v5=v2<v4 ? v5 2 3",
            "2 under 1 depth 1 from 1: v7=v2+v6 go 1",
            "3 under 1 depth 0 from 1: return v2");
        check.says("The heads of loops, from the greatest number to the smallest one:");
        check.says("Changes: how many times a step was moved (one that is moved out of two loops counts twice).");
        for (int loops = 0; loops <= 7; loops++) {
            Gearbox box = Tape.with("fun f(a,b){" + "while a{".repeat(loops) + "a=b*b;" + "}".repeat(loops) + "}");
            check.same("lift out of " + loops + " loops", box.lift(), loops);
            check.same("steps of block 0: the parameters, it, and the 0 at the end of one block", box.steps(0, 0),
                loops == 0 ? 4 : 3);
            check.same("lift again", box.lift(), 0);
        }
        // Out of the inner loop alone, if the outer one changes what it uses.
        makes(LIFT, "fun f(a,b){while a{while b{b=b-a*a;}a=a-1;}}", 2,
            "0 under -1 depth 0 from: v0=par0 v1=par1 v7=1 go 1",
            "1 under 0 depth 1 from 0 5: v2=phi(v0,v8) v3=phi(v1,v4) ? v2 2 6",
            "2 under 1 depth 1 from 1: v5=v2*v2 go 3",
            "3 under 2 depth 2 from 2 4: v4=phi(v3,v6) ? v4 4 5",
            "4 under 3 depth 2 from 3: v6=v4-v5 go 3",
            "5 under 3 depth 1 from 3: v8=v2-v7 go 1",
            "6 under 1 depth 0 from 1: v9=0 return v9");
    }

    // ---- merge

    private static void merges() {
        check.says("The smallest block whose end is 22, to a block to which only this way leads (and which is not itself): the phis of "
            + "that one are left out, what uses one uses its value instead; its steps come behind those of the first one, its end is "
            + "the end of the first one, and it is left out. This is done till there is no such block. Changes: blocks left out.");
        check.same("nothing to merge", Tape.with("fun f(){}").merge(), 0);
        check.same("two ways lead there", Tape.with("fun f(a){if a{}}").merge(), 0);
        check.same("ends 23", Tape.with("fun f(a){if a{return 1;}return 2;}").merge(), 0);
        check.same("a loop", Tape.with("fun f(a){while a{}}").merge(), 0);
        check.same("a while that is no loop", Tape.with("fun f(a){while a{return a;}return 1;}").merge(), 1);
        makes(MERGE, "itself", after("fun f(){while 1{}}", FOLD), 1,
            "0 under -1 depth 0 from: go 1",
            "1 under 0 depth 1 from 0 1: v0=1 go 1");
        makes(MERGE, "itself, with more blocks", after("fun f(a){while 1{if 1{a=a+1;}}}", FOLD), 3,
            "0 under -1 depth 0 from: v0=par0 go 1",
            "1 under 0 depth 1 from 0 1: v1=phi(v0,v5) v2=1 v3=1 v4=1 v5=v1+v4 go 1");
        // A chain of them, with phis of one value that use each other's.
        makes(MERGE, "a chain", after("fun f(a){if 1{a=a+1;}if 0{a=7;}if 1{a=a*a;}return a;}", FOLD), 6,
            "0 under -1 depth 0 from: v0=par0 v1=1 v2=1 v3=v0+v2 v5=0 v8=1 v9=v3*v3 return v9");
        // A phi behind the block that is left out takes its value from the one that stays.
        makes(MERGE, "a phi behind", after("fun f(a,b){if b{if 1{a=a+1;}else{a=3;}}return a;}", FOLD), 2,
            "0 under -1 depth 0 from: v0=par0 v1=par1 ? v1 1 2",
            "1 under 0 depth 0 from 0: v2=1 v3=1 v4=v0+v3 go 3",
            "2 under 0 depth 0 from 0: go 3",
            "3 under 0 depth 0 from 1 2: v7=phi(v4,v0) return v7");
    }

    // ---- settle

    private static void settles() {
        check.says("fold, same, drop, lift, merge, one behind the other, again and again, till all of them together make no change. It "
            + "tells how many times all five were done (the last time, without a change, counted).");
        check.says("Returns how many times all five were done.");
        check.same("without a change", Tape.with("fun f(a,b){return a+b;}").settle(), 1);
        check.same("of a number alone", Tape.with("fun f(){}").settle(), 1);
        // One change by each pass alone is done in the first time, and the second one finds none.
        check.same("a change by fold", Tape.with("fun f(a){[1]=2+3;return a;}").settle(), 2);
        check.same("a change by same", Tape.with("fun f(a,b){[a+b]=b+a;}").settle(), 2);
        check.same("a change by drop", Tape.with("fun f(a){return 1;}").settle(), 2);
        check.same("a change by lift", Tape.with("fun f(a){while a{a=a-1;}return a;}").settle(), 2);
        check.same("a change by merge", Tape.with("fun f(a){while a{return a;}return 1;}").settle(), 2);
        for (String text : new String[] {"fun f(a){while a{if a==a{a=a-1;}else{a=a+1;}}return a;}",
            "fun f(a,b){var x=0;while a{x=x*b;if x{b=1;}a=a-1;}return b;}",
            "fun f(a,b){if a-a{while b{b=b-(a-a)/(a-b-a+b);}}return a*(b-b);}"}) {
            Gearbox box = Tape.with(text);
            Gearbox other = Tape.with(text);
            int times = 0;
            int changes = 1;
            for (; changes > 0 && times < 100; times++) {
                changes = other.fold() + other.same() + other.drop() + other.lift() + other.merge();
            }
            check.isTrue("more than twice: " + text, times > 2);
            check.same("settle of " + text, box.settle(), times);
            check.same("blocks", Dump.blocks(box, 0), Dump.blocks(other, 0));
            check.same("settle again", box.settle(), 1);
            check.same("blocks", Dump.blocks(box, 0), Dump.blocks(other, 0));
        }
    }

    /** Passes in each order, one behind the other: each works on what the ones ahead left. */
    private static void oneBehindTheOther() {
        check.says("Each pass works on the blocks of all functions, one function by one, and tells how many changes it made.");
        String[] functions = {"(a,b){var x=1;while a{if x-1{x=2;continue;}a=a-x*b*b;if 0{break;}}[x]=a+0;return a*x;}",
            "(a,b){if 0{a=b;}else{b=a*a;}while b{b=b-(a*a+1);if 1{[b]=a/3;}else{return a;}}return b;}",
            "(a,b){while 1{if a{if a==a{break;}}a=a+b*2;}while b{while a{a=a-b*b/2;}b=b-1;}return a-a;}",
            "(a,b){var c=a&&b;if c||a{c=c+0;}return c*1+(a*b-b*a);}",
            "(a){return a;}", "(){while 1{}}"};
        StringBuilder text = new StringBuilder();
        for (int f = 0; f < 6; f++) {
            text.append("fun f").append(f).append(functions[f]);
        }
        for (int order = 0; order < 5 * 5 * 5 * 5; order++) {
            Gearbox box = Tape.with(text.toString());
            Oracle oracle = new Oracle();
            oracle.load(text.toString());
            for (int rest = order, n = 0; n < 4; rest /= 5, n++) {
                check.same("changes of pass " + rest % 5, pass(box, rest % 5), oracle.pass(rest % 5));
            }
            check.same("digest behind passes " + order, box.digest(), oracle.digest());
            check.same("code behind passes " + order, box.allocate(3), oracle.allocate(3));
            check.same("digest of the code behind passes " + order, box.digest(), oracle.digest());
        }
    }

    /** Passes over 60 blocks, and over 250 values. */
    private static void mostOfAll() {
        check.says("Returns how many changes.");
        String blocks = "fun f(a){" + "if a{}".repeat(19) + "if a{return 1;}}";
        for (int which = FOLD; which <= MERGE; which++) {
            Gearbox box = Tape.with(blocks);
            String before = Dump.blocks(box, 0);
            check.same("pass " + which + " over 60 blocks", pass(box, which), 0);
            check.same("what there is", Dump.blocks(box, 0), before);
        }
        Gearbox last = Tape.with(blocks.replace("return 1;}", "return 1;}return a|a;"));
        check.same("60 blocks", last.blocks(0), 60);
        check.same("same in the last one", last.same(), 1);
        Gearbox none = Tape.with(blocks.replace("if a", "if 0"));
        check.same("fold of 20 ends", none.fold(), 20);
        check.same("blocks", none.blocks(0), 40);
        check.same("merge of them", none.merge(), 39);
        check.same("blocks", none.blocks(0), 1);
        String values = "fun f(a){" + ("a=1" + "+1".repeat(9) + ";").repeat(12) + "a=1;".repeat(20) + "}";
        check.same("fold of 250 values", Tape.with(values).fold(), 12 * 9);
        check.same("drop of 250 values", Tape.with(values).drop(), 249);
        // Left are a, the 0, and the numbers 1 to 10.
        Gearbox joined = Tape.with(values);
        check.same("same of 250 values", joined.same(), 238 + 9);
        check.same("values", joined.values(0), 12);
        check.same("settle", Tape.with(values).settle(), 2);
    }
}
