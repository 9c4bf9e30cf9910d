/** Promises 7 to 26: functions, blocks, values, ways, ends, phis and steps, as load makes them. */
public final class BlocksTest {
    private static final Check check = new Check("BlocksTest");

    public static void main(String[] args) {
        made();
        shortCuts();
        loops();
        numbers();
        wrong();
        check.end();
    }

    private static void are(String text, int f, String... blocks) {
        String due = String.join("\n", blocks) + "\n";
        String got = Dump.blocks(Tape.with(text), f);
        check.isTrue("'" + text + "' has the blocks\n" + due + "but has\n" + got + "this", got.equals(due));
    }

    private static void made() {
        are("fun f(){}", 0, "0 under -1 depth 0 from: v0=0 return v0");
        are("fun f(a,b){return b;a=2;}", 0, "0 under -1 depth 0 from: v0=par0 v1=par1 return v1");
        are("fun f(a){[a+1]=[a]*2;g(a,f(3));return g(1,2);}fun g(x,y){return x-y;}", 0,
            "0 under -1 depth 0 from: v0=par0 v1=1 v2=v0+v1 v3=[v0] v4=2 v5=v3*v4 [v2]=v5 v6=3 arg(v6) v7=call0 "
                + "arg(v0) arg(v7) v8=call1 v9=1 v10=2 arg(v9) arg(v10) v11=call1 return v11");
        are("fun f(a){[a+1]=[a]*2;g(a,f(3));return g(1,2);}fun g(x,y){return x-y;}", 1,
            "0 under -1 depth 0 from: v0=par0 v1=par1 v2=v0-v1 return v2");
        are("fun f(a){return -a;}", 0, "0 under -1 depth 0 from: v0=par0 v1=0 v2=v1-v0 return v2");
        are("fun f(a){return !a;}", 0, "0 under -1 depth 0 from: v0=par0 v1=0 v2=v0==v1 return v2");
        are("fun f(a,b){return a+b-a*b/a%b;}", 0, "0 under -1 depth 0 from: v0=par0 v1=par1 v2=v0+v1 v3=v0*v1 "
            + "v4=v3/v0 v5=v4%v1 v6=v2-v5 return v6");
        are("fun f(a,b){return (a&b|a^b)<<a>>b;}", 0, "0 under -1 depth 0 from: v0=par0 v1=par1 v2=v0&v1 v3=v2|v0 "
            + "v4=v3^v1 v5=v4<<v0 v6=v5>>v1 return v6");
        are("fun f(a){return ((((a<1)<=2)>3)>=4)==(5!=6);}", 0,
            "0 under -1 depth 0 from: v0=par0 v1=1 v2=v0<v1 v3=2 v4=v2<=v3 v5=3 v6=v4>v5 v7=4 v8=v6>=v7 v9=5 v10=6 "
                + "v11=v9!=v10 v12=v8==v11 return v12");
        are("fun f(a){if a{a=1;}return a;}", 0,
            "0 under -1 depth 0 from: v0=par0 ? v0 1 2",
            "1 under 0 depth 0 from 0: v1=1 go 3",
            "2 under 0 depth 0 from 0: go 3",
            "3 under 0 depth 0 from 1 2: v2=phi(v1,v0) return v2");
        are("fun f(a){if a{a=1;}else{return 2;}return a;}", 0,
            "0 under -1 depth 0 from: v0=par0 ? v0 1 3",
            "1 under 0 depth 0 from 0: v1=1 go 2",
            "2 under 1 depth 0 from 1: return v1",
            "3 under 0 depth 0 from 0: v2=2 return v2");
        // No phi of what is not wanted, nor of what is assigned again ahead of its use.
        are("fun f(a,b){if a{b=1;a=2;}a=3;return a;}", 0,
            "0 under -1 depth 0 from: v0=par0 v1=par1 ? v0 1 2",
            "1 under 0 depth 0 from 0: v2=1 v3=2 go 3",
            "2 under 0 depth 0 from 0: go 3",
            "3 under 0 depth 0 from 1 2: v4=3 return v4");
    }

    private static void shortCuts() {
        are("fun f(a,b){return a&&b;}", 0,
            "0 under -1 depth 0 from: v0=par0 v1=par1 v2=0 v3=v0!=v2 ? v3 1 2",
            "1 under 0 depth 0 from 0: v4=0 v5=v1!=v4 go 3",
            "2 under 0 depth 0 from 0: go 3",
            "3 under 0 depth 0 from 1 2: v6=phi(v5,v3) return v6");
        are("fun f(a){return !a||-a;}", 0,
            "0 under -1 depth 0 from: v0=par0 v1=0 v2=v0==v1 v3=0 v4=v2!=v3 ? v4 1 2",
            "1 under 0 depth 0 from 0: go 3",
            "2 under 0 depth 0 from 0: v5=0 v6=v5-v0 v7=0 v8=v6!=v7 go 3",
            "3 under 0 depth 0 from 1 2: v9=phi(v4,v8) return v9");
    }

    private static void loops() {
        are("fun f(a,b){while b{var t=a%b;a=b;b=t;}return a;}", 0,
            "0 under -1 depth 0 from: v0=par0 v1=par1 go 1",
            "1 under 0 depth 1 from 0 2: v2=phi(v0,v3) v3=phi(v1,v4) ? v3 2 3",
            "2 under 1 depth 1 from 1: v4=v2%v3 go 1",
            "3 under 1 depth 0 from 1: return v2");
        are("fun f(a,b){while a{if b{break;}a=a-1;if a==b{continue;}b=b+1;}return a+b;}", 0,
            "0 under -1 depth 0 from: v0=par0 v1=par1 go 1",
            "1 under 0 depth 1 from 0 5 6: v2=phi(v0,v5,v5) v3=phi(v1,v3,v8) ? v2 2 7",
            "2 under 1 depth 1 from 1: ? v3 3 4",
            "3 under 2 depth 0 from 2: go 8",
            "4 under 2 depth 1 from 2: v4=1 v5=v2-v4 v6=v5==v3 ? v6 5 6",
            "5 under 4 depth 1 from 4: go 1",
            "6 under 4 depth 1 from 4: v7=1 v8=v3+v7 go 1",
            "7 under 1 depth 0 from 1: go 8",
            "8 under 1 depth 0 from 3 7: v9=v2+v3 return v9");
        are("fun f(a){var b=1;while a{while b{b=b-1;}a=a-1;}return b;}", 0,
            "0 under -1 depth 0 from: v0=par0 v1=1 go 1",
            "1 under 0 depth 1 from 0 5: v2=phi(v0,v8) v3=phi(v1,v4) ? v2 2 6",
            "2 under 1 depth 1 from 1: go 3",
            "3 under 2 depth 2 from 2 4: v4=phi(v3,v6) ? v4 4 5",
            "4 under 3 depth 2 from 3: v5=1 v6=v4-v5 go 3",
            "5 under 3 depth 1 from 3: v7=1 v8=v2-v7 go 1",
            "6 under 1 depth 0 from 1: return v3");
        // A loop that is left behind its first round is none.
        are("fun f(a){while a{return a;}}", 0,
            "0 under -1 depth 0 from: v0=par0 go 1",
            "1 under 0 depth 0 from 0: ? v0 2 3",
            "2 under 1 depth 0 from 1: return v0",
            "3 under 1 depth 0 from 1: v1=0 return v1");
    }

    private static void numbers() {
        Gearbox box = Tape.with("fun f(a,b,c,d){while b{b=a%b;}return b;}fun g(){}fun h(x){return x;}");
        check.same("functions", box.functions(), 3);
        check.same("parameters of f", box.parametersOf(0), 4);
        check.same("parameters of g", box.parametersOf(1), 0);
        check.same("parameters of h", box.parametersOf(2), 1);
        check.same("blocks of f", box.blocks(0), 4);
        check.same("blocks of g", box.blocks(1), 1);
        check.same("values of f", box.values(0), 6);
        check.same("values of g", box.values(1), 1);
        int[] homes = {0, 0, 0, 0, 1, 2};
        for (int value = 0; value < 6; value++) {
            check.same("block of value " + value, box.blockOf(0, value), homes[value]);
        }
        check.same("block of value 6", box.blockOf(0, 6), -1);
        check.same("block of value -1", box.blockOf(0, -1), -1);
        check.same("block of the least value", box.blockOf(0, Integer.MIN_VALUE), -1);
        check.same("block of the greatest value", box.blockOf(0, Integer.MAX_VALUE), -1);
        // A value that was left out is none, and the others keep their numbers.
        Gearbox dropped = Tape.with("fun f(a,b){return b+2;}");
        check.same("drop", dropped.drop(), 1);
        check.same("values", dropped.values(0), 3);
        check.same("block of the value that was dropped", dropped.blockOf(0, 0), -1);
        check.same("block of the last value", dropped.blockOf(0, 3), 0);
    }

    private static void wrong() {
        Gearbox box = Tape.with("fun f(a){while a{a=a-1;}return a;}");
        long before = box.digest();
        int[] functions = {-1, 1, Integer.MIN_VALUE, Integer.MAX_VALUE};
        for (int f : functions) {
            String of = " of function " + f;
            raises("parametersOf" + of, () -> box.parametersOf(f));
            raises("blocks" + of, () -> box.blocks(f));
            raises("values" + of, () -> box.values(f));
            raises("blockOf" + of, () -> box.blockOf(f, 0));
            blockCalls(box, f, 0);
        }
        int[] blocks = {-1, 4, Integer.MIN_VALUE, Integer.MAX_VALUE};
        for (int b : blocks) {
            blockCalls(box, 0, b);
        }
        int[] places = {-1, 2, Integer.MIN_VALUE, Integer.MAX_VALUE};
        for (int place : places) {
            raises("predecessor " + place, () -> box.predecessor(0, 1, place));
            raises("phiTakes of place " + place, () -> box.phiTakes(0, 1, 0, place));
            raises("phiTakes of phi " + place, () -> box.phiTakes(0, 1, place, 0));
            raises("phiGives " + place, () -> box.phiGives(0, 1, place));
            raises("kindOf " + place, () -> box.kindOf(0, 2, place));
            raises("gives " + place, () -> box.gives(0, 2, place));
            raises("leftOf " + place, () -> box.leftOf(0, 2, place));
            raises("rightOf " + place, () -> box.rightOf(0, 2, place));
        }
        raises("predecessor of block 0", () -> box.predecessor(0, 0, 0));
        raises("phi of block 0", () -> box.phiGives(0, 0, 0));
        raises("step of block 1", () -> box.kindOf(0, 1, 0));
        check.same("nothing has changed", box.digest(), before);
        check.same("predecessor 1 of block 1", box.predecessor(0, 1, 1), 2);
        check.same("phi 0 of block 1 from the second predecessor", box.phiTakes(0, 1, 0, 1), 3);
    }

    private static void blockCalls(Gearbox box, int f, int b) {
        String of = " of function " + f + " and block " + b;
        raises("dominatorOf" + of, () -> box.dominatorOf(f, b));
        raises("depthOf" + of, () -> box.depthOf(f, b));
        raises("predecessors" + of, () -> box.predecessors(f, b));
        raises("predecessor" + of, () -> box.predecessor(f, b, 0));
        raises("endOf" + of, () -> box.endOf(f, b));
        raises("successor" + of, () -> box.successor(f, b, false));
        raises("second successor" + of, () -> box.successor(f, b, true));
        raises("endValue" + of, () -> box.endValue(f, b));
        raises("phis" + of, () -> box.phis(f, b));
        raises("phiGives" + of, () -> box.phiGives(f, b, 0));
        raises("phiTakes" + of, () -> box.phiTakes(f, b, 0, 0));
        raises("steps" + of, () -> box.steps(f, b));
        raises("kindOf" + of, () -> box.kindOf(f, b, 0));
        raises("gives" + of, () -> box.gives(f, b, 0));
        raises("leftOf" + of, () -> box.leftOf(f, b, 0));
        raises("rightOf" + of, () -> box.rightOf(f, b, 0));
    }

    private static void raises(String what, Runnable call) {
        check.raises(what, IndexOutOfBoundsException.class, call);
    }
}
