/** Section 3 of the document and promises 7 to 26, sentence by sentence: at each bound, and one beyond it. */
public final class BlockBoundsTest {
    private static final Check check = new Check("BlockBoundsTest");
    private static final int LEAST = Integer.MIN_VALUE;
    private static final int MOST = Integer.MAX_VALUE;
    private static final String MOST_BLOCKS = "fun f(a){" + "if a{}".repeat(19) + "if a{return 1;}}";
    private static final String MOST_VALUES = "fun f(a){" + ("a=1" + "+1".repeat(9) + ";").repeat(12) + "a=1;".repeat(20) + "}";
    private static final String LOOP = "fun f(a,b){while b{var t=a%b;a=b;b=t;}[a]=f(a,b);return a;}fun g(){}";

    public static void main(String[] args) {
        givers();
        making();
        parametersFirst();
        leftOut();
        parted();
        numbered();
        dominators();
        borders();
        loops();
        wanted();
        takes();
        variables();
        functions();
        parameters();
        blocks();
        values();
        homes();
        dominatorCalls();
        depthCalls();
        predecessors();
        ends();
        phis();
        steps();
        allIndexes();
        check.end();
    }

    private static void are(String text, String... blocks) {
        check.same("blocks of '" + text + "'", Dump.blocks(Tape.with(text), 0), String.join("\n", blocks) + "\n");
    }

    // ---- section 3

    private static void givers() {
        check.says("each phi, and each step of the kinds 0 to 17, 20 and 21, gives one value, which no other one gives.");
        check.says("Values are numbered from 0 in the order of blocks, in each block phis first, then steps.");
        String kinds = "fun f(a,b){while a{[a]=-a+b*[b]/3%4;b=f(a,b)<<1>>2;a=(a<b)+(a<=b)+(a>b)+(a>=b);b=(a==b)&(a!=b)|a^b;"
            + "f(1,a&&b||a);}}";
        for (String text : new String[] {"fun f(){}", LOOP, kinds, MOST_BLOCKS, MOST_VALUES}) {
            Gearbox box = Tape.with(text);
            int next = 0;
            boolean[] seen = new boolean[22];
            for (int b = 0; b < box.blocks(0); b++) {
                for (int phi = 0; phi < box.phis(0, b); phi++) {
                    check.same("phi of " + text, box.phiGives(0, b, phi), next++);
                }
                for (int s = 0; s < box.steps(0, b); s++) {
                    int kind = box.kindOf(0, b, s);
                    seen[kind] = true;
                    boolean isGiving = kind <= 17 || kind == 20 || kind == 21;
                    check.same("step of kind " + kind, box.gives(0, b, s), isGiving ? next++ : -1);
                }
            }
            check.same("values of " + text, box.values(0), next);
            for (int kind = 0; kind < 22 && text.equals(kinds); kind++) {
                check.isTrue("there is a step of kind " + kind, seen[kind]);
            }
        }
    }

    /** The block of a function of a and b that is a test alone. */
    private static void is(String test, String steps) {
        are("fun f(a,b){return " + test + ";}", "0 under -1 depth 0 from: v0=par0 v1=par1 " + steps);
    }

    private static void making() {
        check.says("A number: a step 0. A name of a variable: nothing, its value now. x op y: x, y, then the step. - x: a step 0 of 0, "
            + "x, a step 2. ! x: x, a step 0 of 0, a step 15. [ x ] : x, a step 17. A call: its arguments from the left to the right, "
            + "then a step 19 for each of them, then a step 20.");
        is("0", "v2=0 return v2");
        is("999999999", "v2=999999999 return v2");
        is("b", "return v1");
        is("a+b", "v2=v0+v1 return v2");
        is("b-1", "v2=1 v3=v1-v2 return v3");
        is("1-b", "v2=1 v3=v2-v1 return v3");
        is("-b", "v2=0 v3=v2-v1 return v3");
        is("-5", "v2=0 v3=5 v4=v2-v3 return v4");
        is("!b", "v2=0 v3=v1==v2 return v3");
        is("!5", "v2=5 v3=0 v4=v2==v3 return v4");
        is("[b]", "v2=[v1] return v2");
        is("[[b]]", "v2=[v1] v3=[v2] return v3");
        is("((b))", "return v1");
        is("f(1,a)", "v2=1 arg(v2) arg(v0) v3=call0 return v3");
        is("f(f(1,2),b)", "v2=1 v3=2 arg(v2) arg(v3) v4=call0 arg(v4) arg(v1) v5=call0 return v5");
        are("fun f(){return f();}", "0 under -1 depth 0 from: v0=call0 return v0");
        are("fun f(a,b,c,d){f(d,c,b,a);}",
            "0 under -1 depth 0 from: v0=par0 v1=par1 v2=par2 v3=par3 arg(v3) arg(v2) arg(v1) arg(v0) v4=call0 v5=0 return v5");
        check.says("x && y: x, a step 0 of 0, a step 16 of both: this is the value of a new variable; an end 23 by it, to a new block R if "
            + "it is not 0, otherwise to a new block E. In R: y, a step 0 of 0, a step 16: the variable gets this value; an end 22 to "
            + "E. E goes on with the variable as value, which is used at its beginning. x || y: the same, but the end 23 goes to E if "
            + "it is not 0, otherwise to R.");
        // Though nothing uses it, it is used at the beginning of E, and so it has a phi.
        are("fun f(a){[1]=2;var x=a&&3;}",
            "0 under -1 depth 0 from: v0=par0 v1=1 v2=2 [v1]=v2 v3=0 v4=v0!=v3 ? v4 1 2",
            "1 under 0 depth 0 from 0: v5=3 v6=0 v7=v5!=v6 go 3",
            "2 under 0 depth 0 from 0: go 3",
            "3 under 0 depth 0 from 1 2: v8=phi(v7,v4) v9=0 return v9");
        are("fun f(a){f(7+(a||3));}",
            "0 under -1 depth 0 from: v0=par0 v1=7 v2=0 v3=v0!=v2 ? v3 1 2",
            "1 under 0 depth 0 from 0: go 3",
            "2 under 0 depth 0 from 0: v4=3 v5=0 v6=v4!=v5 go 3",
            "3 under 0 depth 0 from 1 2: v7=phi(v3,v6) v8=v1+v7 arg(v8) v9=call0 v10=0 return v10");
        check.says("var and = : the variable gets the value of the test (no step). [ x ] = y: x, y, a step 18. A call as a statement: as "
            + "above.");
        are("fun f(a){var b=a;b=b;a=b;}", "0 under -1 depth 0 from: v0=par0 v1=0 return v1");
        are("fun f(a){[a+1]=a-1;}", "0 under -1 depth 0 from: v0=par0 v1=1 v2=v0+v1 v3=1 v4=v0-v3 [v2]=v4 v5=0 return v5");
        are("fun f(a){f(a);}", "0 under -1 depth 0 from: v0=par0 arg(v0) v1=call0 v2=0 return v2");
        check.says("if: the test; an end 23 to a new block T, and to a new block F (with else) or J (without); T with the first block of "
            + "the statement, an end 22 to J; F likewise. while: an end 22 to a new block H; there the test, an end 23 to a new block B "
            + "and a new block X; in B the block, and an end 22 to H; on with X.");
        are("fun f(a){if a{[1]=1;}else{[2]=2;}[3]=3;}",
            "0 under -1 depth 0 from: v0=par0 ? v0 1 2",
            "1 under 0 depth 0 from 0: v1=1 v2=1 [v1]=v2 go 3",
            "2 under 0 depth 0 from 0: v3=2 v4=2 [v3]=v4 go 3",
            "3 under 0 depth 0 from 1 2: v5=3 v6=3 [v5]=v6 v7=0 return v7");
        are("fun f(a){while a+1{[2]=2;}[3]=3;}",
            "0 under -1 depth 0 from: v0=par0 go 1",
            "1 under 0 depth 1 from 0 2: v1=1 v2=v0+v1 ? v2 2 3",
            "2 under 1 depth 1 from 1: v3=2 v4=2 [v3]=v4 go 1",
            "3 under 1 depth 0 from 1: v5=3 v6=3 [v5]=v6 v7=0 return v7");
    }

    private static void parametersFirst() {
        check.says("The first block begins with a step 21 for each parameter, in order.");
        are("fun f(){}", "0 under -1 depth 0 from: v0=0 return v0");
        are("fun f(a){}", "0 under -1 depth 0 from: v0=par0 v1=0 return v1");
        are("fun f(a,b,c,d){return a;}", "0 under -1 depth 0 from: v0=par0 v1=par1 v2=par2 v3=par3 return v0");
        check.says("At the end of a function: a step 0 of 0, and an end 24.");
        are("fun f(a){return a;}", "0 under -1 depth 0 from: v0=par0 return v0");
        are("fun f(a){if a{return 1;}else{return 2;}}",
            "0 under -1 depth 0 from: v0=par0 ? v0 1 2",
            "1 under 0 depth 0 from 0: v1=1 return v1",
            "2 under 0 depth 0 from 0: v2=2 return v2");
        are("fun f(a){if a{return 1;}}",
            "0 under -1 depth 0 from: v0=par0 ? v0 1 2",
            "1 under 0 depth 0 from 0: v1=1 return v1",
            "2 under 0 depth 0 from 0: v2=0 return v2");
    }

    private static void leftOut() {
        check.says("return: an end 24; what is behind it is made in a new block, to which nothing leads.");
        check.says("Then blocks that cannot be reached from the first one are left out.");
        are("fun f(a){return a;a=1;return 2;}", "0 under -1 depth 0 from: v0=par0 return v0");
        are("fun f(a){return a;while a{a=1;}if a{}else{}a=a&&a;}", "0 under -1 depth 0 from: v0=par0 return v0");
        check.says("break is an end 22 to X, continue one to H, of the innermost while; behind them as behind return.");
        are("fun f(a){while a{break;a=1;}return a;}",
            "0 under -1 depth 0 from: v0=par0 go 1",
            "1 under 0 depth 0 from 0: ? v0 2 3",
            "2 under 1 depth 0 from 1: go 4",
            "3 under 1 depth 0 from 1: go 4",
            "4 under 1 depth 0 from 2 3: return v0");
        are("fun f(a){while a{continue;a=1;}return a;}",
            "0 under -1 depth 0 from: v0=par0 go 1",
            "1 under 0 depth 1 from 0 2: ? v0 2 3",
            "2 under 1 depth 1 from 1: go 1",
            "3 under 1 depth 0 from 1: return v0");
        // Of the innermost while, in the second loop of the second function, too.
        check.same("blocks of g", Dump.blocks(Tape.with("fun f(a){while a{}}fun g(a){while a{while a{if a{continue;}break;}[1]=2;"
            + "continue;}}"), 1), String.join("\n",
            "0 under -1 depth 0 from: v0=par0 go 1",
            "1 under 0 depth 1 from 0 8: ? v0 2 9",
            "2 under 1 depth 1 from 1: go 3",
            "3 under 2 depth 2 from 2 5: ? v0 4 7",
            "4 under 3 depth 2 from 3: ? v0 5 6",
            "5 under 4 depth 2 from 4: go 3",
            "6 under 4 depth 1 from 4: go 8",
            "7 under 3 depth 1 from 3: go 8",
            "8 under 3 depth 1 from 6 7: v1=1 v2=2 [v1]=v2 go 1",
            "9 under 1 depth 0 from 1: v3=0 return v3") + "\n");
        // A loop within a loop: only the inner one is left.
        are("fun f(a){while a{while a{break;}return 1;}return 2;}",
            "0 under -1 depth 0 from: v0=par0 go 1",
            "1 under 0 depth 0 from 0: ? v0 2 7",
            "2 under 1 depth 0 from 1: go 3",
            "3 under 2 depth 0 from 2: ? v0 4 5",
            "4 under 3 depth 0 from 3: go 6",
            "5 under 3 depth 0 from 3: go 6",
            "6 under 3 depth 0 from 4 5: v1=1 return v1",
            "7 under 1 depth 0 from 1: v2=2 return v2");
    }

    private static void parted() {
        check.says("Then on each way from a block with two successors to a block to which more than one way leads, a new block "
            + "without steps is put, with an end 22.");
        // One way leads to what is behind, if the other one returns: nothing is put.
        are("fun f(a){if a{return 1;}return a;}",
            "0 under -1 depth 0 from: v0=par0 ? v0 1 2",
            "1 under 0 depth 0 from 0: v1=1 return v1",
            "2 under 0 depth 0 from 0: return v0");
        // Two ways do.
        are("fun f(a){if a{}return a;}",
            "0 under -1 depth 0 from: v0=par0 ? v0 1 2",
            "1 under 0 depth 0 from 0: go 3",
            "2 under 0 depth 0 from 0: go 3",
            "3 under 0 depth 0 from 1 2: return v0");
        // With an else each way comes from a block with one successor.
        are("fun f(a){if a{}else{}return a;}",
            "0 under -1 depth 0 from: v0=par0 ? v0 1 2",
            "1 under 0 depth 0 from 0: go 3",
            "2 under 0 depth 0 from 0: go 3",
            "3 under 0 depth 0 from 1 2: return v0");
        // A way that is left out as it cannot be reached does not count.
        are("fun f(a){if a{return 1;a=2;}return a;}",
            "0 under -1 depth 0 from: v0=par0 ? v0 1 2",
            "1 under 0 depth 0 from 0: v1=1 return v1",
            "2 under 0 depth 0 from 0: return v0");
        // To the block behind || its first way is parted, behind && its second one.
        are("fun f(a){return a||a;}",
            "0 under -1 depth 0 from: v0=par0 v1=0 v2=v0!=v1 ? v2 1 2",
            "1 under 0 depth 0 from 0: go 3",
            "2 under 0 depth 0 from 0: v3=0 v4=v0!=v3 go 3",
            "3 under 0 depth 0 from 1 2: v5=phi(v2,v4) return v5");
        are("fun f(a){return a&&a;}",
            "0 under -1 depth 0 from: v0=par0 v1=0 v2=v0!=v1 ? v2 1 2",
            "1 under 0 depth 0 from 0: v3=0 v4=v0!=v3 go 3",
            "2 under 0 depth 0 from 0: go 3",
            "3 under 0 depth 0 from 1 2: v5=phi(v4,v2) return v5");
    }

    private static void numbered() {
        check.says("from a block it goes to each of its successors to which it has not been, the last one first; then the block is "
            + "finished. The block that is finished last has the number 0, the one ahead of it 1, and so on.");
        // What is behind an if comes behind both of its ways; what leaves the first way comes ahead of the second one.
        are("fun f(a){if a{return 1;}else{}return a;}",
            "0 under -1 depth 0 from: v0=par0 ? v0 1 2",
            "1 under 0 depth 0 from 0: v1=1 return v1",
            "2 under 0 depth 0 from 0: go 3",
            "3 under 2 depth 0 from 2: return v0");
        are("fun f(a){if a{}else{return 1;}return a;}",
            "0 under -1 depth 0 from: v0=par0 ? v0 1 3",
            "1 under 0 depth 0 from 0: go 2",
            "2 under 1 depth 0 from 1: return v0",
            "3 under 0 depth 0 from 0: v1=1 return v1");
        are("fun f(a){while a{if a{break;}a=a-1;}return a;}",
            "0 under -1 depth 0 from: v0=par0 go 1",
            "1 under 0 depth 1 from 0 4: v1=phi(v0,v3) ? v1 2 5",
            "2 under 1 depth 1 from 1: ? v1 3 4",
            "3 under 2 depth 0 from 2: go 6",
            "4 under 2 depth 1 from 2: v2=1 v3=v1-v2 go 1",
            "5 under 1 depth 0 from 1: go 6",
            "6 under 1 depth 0 from 3 5: return v1");
    }

    private static void dominators() {
        check.says("block 0 has none.");
        check.same("dominator of block 0", Tape.with("fun f(){}").dominatorOf(0, 0), -1);
        check.same("dominator of block 0", Tape.with(MOST_BLOCKS).dominatorOf(0, 0), -1);
        check.says("The dominator of a block is the one that dominates it, but for itself, and is dominated by all others that "
            + "do;");
        // Of 19 ifs: the two ways of each, and what is behind it, are under its head; the last block under the last head.
        Gearbox box = Tape.with(MOST_BLOCKS);
        for (int n = 0; n < 19; n++) {
            check.same("first way", box.dominatorOf(0, 3 * n + 1), 3 * n);
            check.same("second way", box.dominatorOf(0, 3 * n + 2), 3 * n);
            check.same("what is behind", box.dominatorOf(0, 3 * n + 3), 3 * n);
        }
        check.same("last but one", box.dominatorOf(0, 58), 57);
        check.same("last", box.dominatorOf(0, 59), 57);
    }

    private static void borders() {
        check.says("The border of a block are those blocks that it does not dominate (or that are it itself), of which it "
            + "dominates a predecessor.");
        // The head of the loop is in its own border, as its body, which it dominates, leads to it: its phi is one of v0 and
        // of itself.
        are("fun f(a,b){while b{if b{a=a;}b=b-1;}return a;}",
            "0 under -1 depth 0 from: v0=par0 v1=par1 go 1",
            "1 under 0 depth 1 from 0 5: v2=phi(v0,v4) v3=phi(v1,v6) ? v3 2 6",
            "2 under 1 depth 1 from 1: ? v3 3 4",
            "3 under 2 depth 1 from 2: go 5",
            "4 under 2 depth 1 from 2: go 5",
            "5 under 2 depth 1 from 3 4: v4=phi(v2,v2) v5=1 v6=v3-v5 go 1",
            "6 under 1 depth 0 from 1: return v2");
        // A block in which a variable is assigned does not need a phi of it by that, nor one that it dominates.
        are("fun f(a){a=1;if a{[1]=a;}return a;}",
            "0 under -1 depth 0 from: v0=par0 v1=1 ? v1 1 2",
            "1 under 0 depth 0 from 0: v2=1 [v2]=v1 go 3",
            "2 under 0 depth 0 from 0: go 3",
            "3 under 0 depth 0 from 1 2: return v1");
        check.says("or of one that has a phi of it;");
        are("fun f(a,b){if b{if b{a=1;}}return a;}",
            "0 under -1 depth 0 from: v0=par0 v1=par1 ? v1 1 5",
            "1 under 0 depth 0 from 0: ? v1 2 3",
            "2 under 1 depth 0 from 1: v2=1 go 4",
            "3 under 1 depth 0 from 1: go 4",
            "4 under 1 depth 0 from 2 3: v3=phi(v2,v0) go 6",
            "5 under 0 depth 0 from 0: go 6",
            "6 under 0 depth 0 from 4 5: v4=phi(v3,v0) return v4");
    }

    private static void loops() {
        check.says("If a block h dominates one of its predecessors, it is the head of a loop: h, and all blocks from which such a "
            + "predecessor can be reached without going through h. The depth of a block is the number of loops that it is in.");
        for (int n = 0; n <= 7; n++) {
            Gearbox box = Tape.with("fun f(a){" + "while a{".repeat(n) + "a=a;" + "}".repeat(n) + "}");
            int deepest = 0;
            for (int b = 0; b < box.blocks(0); b++) {
                deepest = Math.max(deepest, box.depthOf(0, b));
            }
            check.same("depth of " + n + " loops in each other", deepest, n);
            check.same("depth of the first block", box.depthOf(0, 0), 0);
            check.same("depth of the last block", box.depthOf(0, box.blocks(0) - 1), 0);
        }
        // Two ways back are one loop; a while that is always left is none, nor is a way to the same block from two sides.
        are("fun f(a){while 1{if a{continue;}if a<2{continue;}a=a+1;}}",
            "0 under -1 depth 0 from: v0=par0 go 1",
            "1 under 0 depth 1 from 0 3 5 6: v1=phi(v0,v1,v1,v6) v2=1 ? v2 2 7",
            "2 under 1 depth 1 from 1: ? v1 3 4",
            "3 under 2 depth 1 from 2: go 1",
            "4 under 2 depth 1 from 2: v3=2 v4=v1<v3 ? v4 5 6",
            "5 under 4 depth 1 from 4: go 1",
            "6 under 4 depth 1 from 4: v5=1 v6=v1+v5 go 1",
            "7 under 1 depth 0 from 1: v7=0 return v7");
        are("fun f(a){while a{return a;}return 1;}",
            "0 under -1 depth 0 from: v0=par0 go 1",
            "1 under 0 depth 0 from 0: ? v0 2 3",
            "2 under 1 depth 0 from 1: return v0",
            "3 under 1 depth 0 from 1: v1=1 return v1");
        // What leaves a loop is not in it, though it stands in its block.
        are("fun f(a){while a{if a{[1]=1;break;}}}",
            "0 under -1 depth 0 from: v0=par0 go 1",
            "1 under 0 depth 1 from 0 4: ? v0 2 5",
            "2 under 1 depth 1 from 1: ? v0 3 4",
            "3 under 2 depth 0 from 2: v1=1 v2=1 [v1]=v2 go 6",
            "4 under 2 depth 1 from 2: go 1",
            "5 under 1 depth 0 from 1: go 6",
            "6 under 1 depth 0 from 3 5: v3=0 return v3");
        // Loops one behind the other are not in each other.
        are("fun f(a){while a{}while a{}}",
            "0 under -1 depth 0 from: v0=par0 go 1",
            "1 under 0 depth 1 from 0 2: ? v0 2 3",
            "2 under 1 depth 1 from 1: go 1",
            "3 under 1 depth 0 from 1: go 4",
            "4 under 3 depth 1 from 3 5: ? v0 5 6",
            "5 under 4 depth 1 from 4: go 4",
            "6 under 4 depth 0 from 4: v1=0 return v1");
    }

    /** How many phis of b what is behind the if has. */
    private static void behind(String rest, int due) {
        Gearbox box = Tape.with("fun f(a,b){if a{b=1;}" + rest + "}");
        check.same("phis ahead of '" + rest + "'", box.phis(0, 3), due);
    }

    private static void wanted() {
        check.says("and if the variable is wanted at the beginning of the block: there is a way from there to a use of it (a place "
            + "where its name is evaluated, also as the whole of a test) without an assignment of it ahead of that use (a phi "
            + "is neither).");
        String[] uses = {"return b;", "a=b;", "b=b;", "var c=b;", "[b]=1;", "[1]=b;", "f(b,1);", "f(1,b);", "if b{}", "while b{}",
            "a=-b;", "a=!b;", "a=[b];", "a=b+1;", "a=1+b;", "a=b&&1;", "a=1&&b;", "a=b||1;", "a=(b);", "b=b+1;", "b=1+b;",
            "if a{return b;}", "if a{}else{return b;}", "while a{a=b;}", "while a{}return b;", "if a{b=2;}return b;",
            "while a{b=2;}return b;", "while a{a=b;b=2;}", "if a{}if a{}if a{}return b;"};
        for (String use : uses) {
            behind(use, 1);
        }
        String[] others = {"", "return a;", "b=1;", "b=1;return b;", "b=a;return b;", "[1]=1;b=2;f(b,b);", "return 1;return b;",
            "if a{b=1;}else{b=2;}return b;", "while a{b=1;a=b;}", "if 1{return 1;}else{return 2;}return b;",
            "while 1{b=1;break;}", "b=f(1,2);return b;"};
        for (String other : others) {
            behind(other, 0);
        }
        // A use in an inner block of another variable of the same name is none of this one.
        check.same("phis of a variable that is not seen any more",
            Tape.with("fun f(a){if a{var b=1;if a{b=2;}}var b=a;return b;}").phis(0, 4), 0);
    }

    private static void takes() {
        check.says("Of a phi, the value from each predecessor is what the variable has at its end. Predecessors are in the order "
            + "of their numbers.");
        are("fun f(a,b){if a{b=1;b=2;}else{if b{b=3;}else{b=b+4;}}return b;}",
            "0 under -1 depth 0 from: v0=par0 v1=par1 ? v0 1 2",
            "1 under 0 depth 0 from 0: v2=1 v3=2 go 6",
            "2 under 0 depth 0 from 0: ? v1 3 4",
            "3 under 2 depth 0 from 2: v4=3 go 5",
            "4 under 2 depth 0 from 2: v5=4 v6=v1+v5 go 5",
            "5 under 2 depth 0 from 3 4: v7=phi(v4,v6) go 6",
            "6 under 0 depth 0 from 1 5: v8=phi(v3,v7) return v8");
        // Twenty-six ways back, and the one from ahead: as many predecessors as there are.
        Gearbox box = Tape.with("fun f(a,b){while b{b=b-1;" + "if a{continue;}".repeat(26) + "}return b;}");
        check.same("predecessors of the head", box.predecessors(0, 1), 28);
        check.same("phis of the head", box.phis(0, 1), 1);
        check.same("from block 0", box.phiTakes(0, 1, 0, 0), 1);
        for (int place = 1; place < 28; place++) {
            check.same("from " + place, box.phiTakes(0, 1, 0, place), 4);
            check.isTrue("by numbers", box.predecessor(0, 1, place) > box.predecessor(0, 1, place - 1));
        }
        check.raises("one more", IndexOutOfBoundsException.class, () -> box.phiTakes(0, 1, 0, 28));
        check.raises("one more", IndexOutOfBoundsException.class, () -> box.predecessor(0, 1, 28));
    }

    private static void variables() {
        check.says("Variables are numbered in the order in which they first get a value while blocks are made (parameters first). "
            + "Phis of a block stand by the numbers of their variables.");
        are("fun f(a,b){var x=1;var y=2;while a{y=a;x=b;b=y;a=x;}return x+y+a+b;}",
            "0 under -1 depth 0 from: v0=par0 v1=par1 v2=1 v3=2 go 1",
            "1 under 0 depth 1 from 0 2: v4=phi(v0,v5) v5=phi(v1,v4) v6=phi(v2,v5) v7=phi(v3,v4) ? v4 2 3",
            "2 under 1 depth 1 from 1: go 1",
            "3 under 1 depth 0 from 1: v8=v6+v7 v9=v8+v4 v10=v9+v5 return v10");
        // That it is assigned, not how it is called or where it is used first.
        are("fun f(d,a){var z=d;var y=a;if a{y=1;z=2;a=3;d=4;}return y+a+d+z;}",
            "0 under -1 depth 0 from: v0=par0 v1=par1 ? v1 1 2",
            "1 under 0 depth 0 from 0: v2=1 v3=2 v4=3 v5=4 go 3",
            "2 under 0 depth 0 from 0: go 3",
            "3 under 0 depth 0 from 1 2: v6=phi(v5,v0) v7=phi(v4,v1) v8=phi(v3,v0) v9=phi(v2,v1) v10=v9+v7 v11=v10+v6 v12=v11+v8 "
                + "return v12");
    }

    // ---- promises 7 to 26

    private static void functions() {
        check.says("Returns how many functions the program has; 0 without one.");
        check.same("functions without a program", new Gearbox().functions(), 0);
        StringBuilder text = new StringBuilder();
        for (int n = 1; n <= 6; n++) {
            text.append("fun f").append(n).append("(){}");
            Gearbox box = Tape.with(text.toString());
            check.same("functions", box.functions(), n);
            check.same("blocks of the last one", box.blocks(n - 1), 1);
            int beyond = n;
            check.raises("blocks of one more", IndexOutOfBoundsException.class, () -> box.blocks(beyond));
        }
        Gearbox box = Tape.with("fun f(){}fun g(){}");
        Tape.load(box, "x");
        check.same("functions behind an error", box.functions(), 2);
        Tape.load(box, "fun f(){}");
        check.same("functions of another program", box.functions(), 1);
        check.raises("blocks of what was function 1", IndexOutOfBoundsException.class, () -> box.blocks(1));
    }

    private static void parameters() {
        check.says("Returns how many parameters it has.");
        Gearbox box = Tape.with("fun e(){}fun f(a){}fun g(a,b){}fun h(a,b,c){}fun i(a,b,c,d){}");
        for (int f = 0; f < 5; f++) {
            check.same("parameters of function " + f, box.parametersOf(f), f);
        }
    }

    private static void blocks() {
        check.says("Returns how many blocks it has.");
        check.same("one block", Tape.with("fun f(){}").blocks(0), 1);
        check.same("60 blocks", Tape.with(MOST_BLOCKS).blocks(0), 60);
        Gearbox box = Tape.with("fun f(){}fun g(a){if a{}}");
        check.same("blocks of f", box.blocks(0), 1);
        check.same("blocks of g", box.blocks(1), 4);
        box.merge();
        check.same("blocks of g behind merge", box.blocks(1), 4);
        box = Tape.with("fun f(){if 0{}}");
        box.fold();
        check.same("blocks behind fold", box.blocks(0), 3);
        box.merge();
        check.same("blocks behind merge", box.blocks(0), 1);
    }

    private static void values() {
        check.says("Returns how many values its phis and steps give.");
        check.same("one value", Tape.with("fun f(){}").values(0), 1);
        check.same("250 values", Tape.with(MOST_VALUES).values(0), 250);
        check.same("values with a phi", Tape.with("fun f(a){if a{a=1;}return a;}").values(0), 3);
        check.same("what steps 18 and 19 do is no value", Tape.with("fun f(a){[a]=a;f(a);return a;}").values(0), 2);
        // Of a loop without an end nothing is wanted.
        Gearbox box = Tape.with("fun f(){while 1{}}");
        box.settle();
        check.same("no value", box.values(0), 0);
        check.same("block of value 0", box.blockOf(0, 0), -1);
    }

    private static void homes() {
        check.says("Returns the block in which the value with this number is given; -1 if there is no such value.");
        Gearbox most = Tape.with(MOST_VALUES);
        for (int value : new int[] {0, 1, 249}) {
            check.same("block of value " + value, most.blockOf(0, value), 0);
        }
        for (int value : new int[] {-1, 250, 251, LEAST, MOST}) {
            check.same("block of value " + value, most.blockOf(0, value), -1);
        }
        Gearbox box = Tape.with(LOOP);
        int[] homes = {0, 0, 1, 1, 2, 3};
        for (int value = 0; value < homes.length; value++) {
            check.same("block of value " + value, box.blockOf(0, value), homes[value]);
        }
        check.same("values", box.values(0), homes.length);
        check.same("block of one more", box.blockOf(0, homes.length), -1);
        check.same("block of the value of g", box.blockOf(1, 0), 0);
        check.same("block of one more", box.blockOf(1, 1), -1);
        // Of values that are left out, the others keep their numbers.
        box = Tape.with("fun f(a){var b=1;var c=2;[c]=3;}");
        check.same("drop", box.drop(), 2);
        int[] left = {-1, -1, 0, 0, 0, -1};
        for (int value = 0; value < left.length; value++) {
            check.same("block of value " + value, box.blockOf(0, value), left[value]);
        }
        check.same("values", box.values(0), 3);
        // In blocks that are left out there are none.
        box = Tape.with("fun f(){if 0{[1]=2;}return 3;}");
        check.same("block of value 1", box.blockOf(0, 1), 1);
        check.same("fold", box.fold(), 1);
        check.same("block of value 1", box.blockOf(0, 1), -1);
        check.same("block of the last value", box.blockOf(0, 3), 2);
    }

    private static void dominatorCalls() {
        check.says("Returns its dominator; -1 for block 0.");
        Gearbox box = Tape.with(LOOP);
        int[] due = {-1, 0, 1, 1};
        for (int b = 0; b < 4; b++) {
            check.same("dominator of " + b, box.dominatorOf(0, b), due[b]);
        }
        check.same("dominator of the only block", box.dominatorOf(1, 0), -1);
    }

    private static void depthCalls() {
        check.says("Returns its depth.");
        Gearbox box = Tape.with(LOOP);
        int[] due = {0, 1, 1, 0};
        for (int b = 0; b < 4; b++) {
            check.same("depth of " + b, box.depthOf(0, b), due[b]);
        }
    }

    private static void predecessors() {
        check.says("Returns how many predecessors it has.");
        check.says("Returns its predecessor at this place, by numbers.");
        Gearbox box = Tape.with(LOOP);
        check.same("predecessors of block 0", box.predecessors(0, 0), 0);
        check.same("predecessors of block 1", box.predecessors(0, 1), 2);
        check.same("the first one", box.predecessor(0, 1, 0), 0);
        check.same("the second one", box.predecessor(0, 1, 1), 2);
        check.same("predecessors of block 2", box.predecessors(0, 2), 1);
        check.same("the only one", box.predecessor(0, 2, 0), 1);
        check.says("Throws `IndexOutOfBoundsException` if there is no such function, block, or predecessor");
        int[] counts = {0, 2, 1, 1};
        for (int b = 0; b < 4; b++) {
            int block = b;
            for (int place : new int[] {-1, counts[b], LEAST, MOST}) {
                check.refuses("predecessor " + place + " of " + b, box, IndexOutOfBoundsException.class,
                    () -> box.predecessor(0, block, place));
            }
        }
    }

    private static void ends() {
        check.says("Returns the kind of its end, 22 to 24.");
        check.says("Returns the successor; -1 if there is none.");
        check.says("Returns the value that its end uses; -1 if none.");
        Gearbox box = Tape.with(LOOP);
        int[][] due = {{22, 1, -1, -1}, {23, 2, 3, 3}, {22, 1, -1, -1}, {24, -1, -1, 2}};
        for (int b = 0; b < 4; b++) {
            check.same("end of " + b, box.endOf(0, b), due[b][0]);
            check.same("first successor of " + b, box.successor(0, b, false), due[b][1]);
            check.same("second successor of " + b, box.successor(0, b, true), due[b][2]);
            check.same("value of the end of " + b, box.endValue(0, b), due[b][3]);
        }
        // An end that becomes an end 22 uses nothing, and has one successor.
        Gearbox folded = Tape.with("fun f(){if 0{[1]=2;}return 3;}");
        folded.fold();
        check.same("end", folded.endOf(0, 0), 22);
        check.same("value", folded.endValue(0, 0), -1);
        check.same("first successor", folded.successor(0, 0, false), 1);
        check.same("second successor", folded.successor(0, 0, true), -1);
    }

    private static void phis() {
        check.says("Returns how many phis it has.");
        check.says("Returns the number of the value that it gives.");
        check.says("Returns the value that it takes from this one.");
        Gearbox box = Tape.with(LOOP);
        int[] counts = {0, 2, 0, 0};
        for (int b = 0; b < 4; b++) {
            check.same("phis of " + b, box.phis(0, b), counts[b]);
        }
        int[][] due = {{2, 0, 3}, {3, 1, 4}};
        for (int phi = 0; phi < 2; phi++) {
            check.same("value of phi " + phi, box.phiGives(0, 1, phi), due[phi][0]);
            check.same("from the first", box.phiTakes(0, 1, phi, 0), due[phi][1]);
            check.same("from the second", box.phiTakes(0, 1, phi, 1), due[phi][2]);
        }
        check.says("Throws `IndexOutOfBoundsException` if there is no such function, block, or phi");
        check.says("Throws `IndexOutOfBoundsException` if there is no such function, block, phi, or predecessor");
        for (int b = 0; b < 4; b++) {
            int block = b;
            for (int phi : new int[] {-1, counts[b], LEAST, MOST}) {
                check.refuses("phi " + phi + " of " + b, box, IndexOutOfBoundsException.class,
                    () -> box.phiGives(0, block, phi));
                check.refuses("phi " + phi + " of " + b, box, IndexOutOfBoundsException.class,
                    () -> box.phiTakes(0, block, phi, 0));
            }
        }
        for (int place : new int[] {-1, 2, LEAST, MOST}) {
            check.refuses("place " + place, box, IndexOutOfBoundsException.class, () -> box.phiTakes(0, 1, 1, place));
        }
    }

    private static void steps() {
        check.says("Returns how many steps it has.");
        check.says("Returns its kind, 0 to 21.");
        check.says("Returns the number of the value that it gives; -1 if none.");
        check.says("Returns its left value; of a step 0 its number, of a step 20 the function, of a step 21 the parameter, from 0 "
            + "on.");
        check.says("Returns its right value; -1 if it has none.");
        Gearbox box = Tape.with("fun f(a,b){[a]=h([b]-999999999,7);}fun g(){}fun h(c,d){}");
        int[][] due = {{21, 0, 0, -1}, {21, 1, 1, -1}, {17, 2, 1, -1}, {0, 3, 999999999, -1}, {2, 4, 2, 3}, {0, 5, 7, -1},
            {19, -1, 4, -1}, {19, -1, 5, -1}, {20, 6, 2, -1}, {18, -1, 0, 6}, {0, 7, 0, -1}};
        check.same("steps", box.steps(0, 0), due.length);
        for (int s = 0; s < due.length; s++) {
            check.same("kind of step " + s, box.kindOf(0, 0, s), due[s][0]);
            check.same("value of step " + s, box.gives(0, 0, s), due[s][1]);
            check.same("left of step " + s, box.leftOf(0, 0, s), due[s][2]);
            check.same("right of step " + s, box.rightOf(0, 0, s), due[s][3]);
        }
        // A block without steps, and one of 250.
        Gearbox few = Tape.with("fun f(a){if a{}}");
        check.same("no steps", few.steps(0, 1), 0);
        check.refuses("step 0 of none", few, IndexOutOfBoundsException.class, () -> few.kindOf(0, 1, 0));
        check.same("250 steps", Tape.with(MOST_VALUES).steps(0, 0), 250);
        // A step that becomes a number has no right value.
        Gearbox folded = Tape.with("fun f(){return 2147483*1000;}");
        folded.fold();
        check.same("kind", folded.kindOf(0, 0, 2), 0);
        check.same("left", folded.leftOf(0, 0, 2), 2147483000);
        check.same("right", folded.rightOf(0, 0, 2), -1);
        check.says("Throws `IndexOutOfBoundsException` if there is no such function, block, or step");
        for (int s : new int[] {-1, due.length, LEAST, MOST}) {
            check.refuses("kindOf " + s, box, IndexOutOfBoundsException.class, () -> box.kindOf(0, 0, s));
            check.refuses("gives " + s, box, IndexOutOfBoundsException.class, () -> box.gives(0, 0, s));
            check.refuses("leftOf " + s, box, IndexOutOfBoundsException.class, () -> box.leftOf(0, 0, s));
            check.refuses("rightOf " + s, box, IndexOutOfBoundsException.class, () -> box.rightOf(0, 0, s));
        }
    }

    /** No index that there is throws, and each one beyond does; behind each pass, too. */
    private static void allIndexes() {
        check.says("Throws `IndexOutOfBoundsException` if there is no such function, or no such block");
        for (String text : new String[] {LOOP, MOST_BLOCKS, MOST_VALUES, "fun f(a){while 1{if 0{[a]=1;break;}}}"}) {
            Gearbox box = Tape.with(text);
            for (int pass = 0; pass < 6; pass++) {
                indexes(box);
                int now = pass;
                switch (now) {
                    case 0: box.fold(); break;
                    case 1: box.same(); break;
                    case 2: box.drop(); break;
                    case 3: box.lift(); break;
                    default: box.merge();
                }
            }
        }
        Gearbox none = new Gearbox();
        for (int f : new int[] {0, -1, LEAST, MOST}) {
            noFunction(none, f);
        }
        Gearbox two = Tape.with(LOOP);
        for (int f : new int[] {2, -1, LEAST, MOST}) {
            noFunction(two, f);
        }
    }

    private static void indexes(Gearbox box) {
        for (int f = 0; f < box.functions(); f++) {
            int blocks = box.blocks(f);
            for (int b = 0; b < blocks; b++) {
                box.dominatorOf(f, b);
                box.depthOf(f, b);
                box.endOf(f, b);
                box.endValue(f, b);
                box.successor(f, b, false);
                box.successor(f, b, true);
                for (int place = 0; place < box.predecessors(f, b); place++) {
                    box.predecessor(f, b, place);
                    for (int phi = 0; phi < box.phis(f, b); phi++) {
                        box.phiTakes(f, b, phi, place);
                    }
                }
                beyond(box, f, b, box.predecessors(f, b), box.phis(f, b), box.steps(f, b));
                beyond(box, f, b, -1, -1, -1);
            }
            for (int b : new int[] {-1, blocks, LEAST, MOST}) {
                noBlock(box, f, b);
            }
        }
    }

    private static void beyond(Gearbox box, int f, int b, int place, int phi, int step) {
        raises(() -> box.predecessor(f, b, place));
        raises(() -> box.phiGives(f, b, phi));
        raises(() -> box.phiTakes(f, b, phi, 0));
        raises(() -> box.phiTakes(f, b, 0, place));
        raises(() -> box.kindOf(f, b, step));
        raises(() -> box.gives(f, b, step));
        raises(() -> box.leftOf(f, b, step));
        raises(() -> box.rightOf(f, b, step));
    }

    private static void noBlock(Gearbox box, int f, int b) {
        raises(() -> box.dominatorOf(f, b));
        raises(() -> box.depthOf(f, b));
        raises(() -> box.predecessors(f, b));
        raises(() -> box.endOf(f, b));
        raises(() -> box.successor(f, b, false));
        raises(() -> box.successor(f, b, true));
        raises(() -> box.endValue(f, b));
        raises(() -> box.phis(f, b));
        raises(() -> box.steps(f, b));
        beyond(box, f, b, 0, 0, 0);
    }

    private static void noFunction(Gearbox box, int f) {
        String before = Dump.all(box);
        raises(() -> box.parametersOf(f));
        raises(() -> box.blocks(f));
        raises(() -> box.values(f));
        raises(() -> box.blockOf(f, 0));
        raises(() -> box.blockOf(f, -1));
        noBlock(box, f, 0);
        noBlock(box, f, -1);
        check.same("all behind calls of function " + f, Dump.all(box), before);
    }

    private static void raises(Runnable call) {
        check.raises("a call of what there is not", IndexOutOfBoundsException.class, call);
    }
}
