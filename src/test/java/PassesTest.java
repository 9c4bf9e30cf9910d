/** Promises 27 to 32: fold, same, drop, lift, merge, settle. */
public final class PassesTest {
    private static final Check check = new Check("PassesTest");

    public static void main(String[] args) {
        folding();
        joining();
        joiningPhis();
        dropping();
        lifting();
        merging();
        settling();
        allFunctions();
        check.end();
    }

    private static void are(String what, Gearbox box, String... blocks) {
        String due = String.join("\n", blocks) + "\n";
        String got = Dump.blocks(box, 0);
        check.isTrue(what + ": due is\n" + due + "there is\n" + got + "this", got.equals(due));
    }

    private static void folding() {
        Gearbox box = Tape.with("fun f(a){var x=2;var y=3;if x<y{a=a+x*y;}else{a=0;}while x-2{x=x+1;}return a+x;}");
        check.same("fold", box.fold(), 6);
        are("fold", box,
            "0 under -1 depth 0 from: v0=par0 v1=2 v2=3 v3=1 go 1",
            "1 under 0 depth 0 from 0: v4=6 v5=v0+v4 go 2",
            "2 under 1 depth 0 from 1: v7=phi(v5) go 3",
            "3 under 2 depth 0 from 2: v8=2 v9=2 v10=0 go 4",
            "4 under 3 depth 0 from 3: v13=v7+v8 return v13");
        check.same("fold again", box.fold(), 0);
        // By 0 nothing is known, and so of what is read from memory.
        box = Tape.with("fun f(a){var x=a/0;var y=5/0;var z=[3];if 7%2{z=1;}else{z=z+1;}return z*0;}");
        check.same("fold by 0", box.fold(), 4);
        are("fold by 0", box,
            "0 under -1 depth 0 from: v0=par0 v1=0 v2=v0/v1 v3=5 v4=0 v5=v3/v4 v6=3 v7=[v6] v8=7 v9=2 v10=1 go 1",
            "1 under 0 depth 0 from 0: v11=1 go 2",
            "2 under 1 depth 0 from 1: v14=1 v15=0 v16=0 return v16");
        // A loop whose variable stays as it is, as what would change it cannot be reached.
        box = Tape.with("fun f(a){var x=1;while a{if x-1{x=2;}a=a-1;}return x;}");
        check.same("fold of a loop", box.fold(), 4);
        are("fold of a loop", box,
            "0 under -1 depth 0 from: v0=par0 v1=1 go 1",
            "1 under 0 depth 1 from 0 4: v2=phi(v0,v9) v3=1 ? v2 2 5",
            "2 under 1 depth 1 from 1: v4=1 v5=0 go 3",
            "3 under 2 depth 1 from 2: go 4",
            "4 under 3 depth 1 from 3: v7=1 v8=1 v9=v2-v8 go 1",
            "5 under 1 depth 0 from 1: return v3");
        // What varies, varies: a number times 0 is for same.
        box = Tape.with("fun f(a){return a*0+(f(1)-f(1));}");
        check.same("fold of what varies", box.fold(), 0);
    }

    private static void joining() {
        Gearbox box = Tape.with("fun f(a){[0]=a+0;[1]=0+a;[2]=a-0;[3]=a*1;[4]=1*a;[5]=a/1;[6]=a|0;[7]=0|a;[8]=a^0;"
            + "[9]=0^a;[10]=a<<0;[11]=a>>0;[12]=a&a;[13]=a|a;}");
        check.same("same of what stays", box.same(), 27);
        are("same of what stays", box, "0 under -1 depth 0 from: v0=par0 v1=0 [v1]=v0 v4=1 [v4]=v0 v7=2 [v7]=v0 "
            + "v10=3 [v10]=v0 v13=4 [v13]=v0 v16=5 [v16]=v0 v19=6 [v19]=v0 v22=7 [v22]=v0 v25=8 [v25]=v0 v28=9 "
            + "[v28]=v0 v31=10 [v31]=v0 v34=11 [v34]=v0 v37=12 [v37]=v0 v39=13 [v39]=v0 return v1");
        box = Tape.with("fun f(a){[0]=a*0;[1]=0*a;[2]=a&0;[3]=0&a;[4]=a%1;[5]=a-a;[6]=a^a;[7]=a!=a;[8]=a<a;"
            + "[9]=a>a;[10]=a==a;[11]=a<=a;[12]=a>=a;}");
        check.same("same of what is 0 or 1", box.same(), 19);
        are("same of what is 0 or 1", box, "0 under -1 depth 0 from: v0=par0 v1=0 [v1]=v1 v4=1 [v4]=v1 v7=2 [v7]=v1 "
            + "v10=3 [v10]=v1 v13=4 [v13]=v1 v16=5 [v16]=v1 v18=6 [v18]=v1 v20=7 [v20]=v1 v22=8 [v22]=v1 v24=9 "
            + "[v24]=v1 v26=10 [v26]=v4 v28=11 [v28]=v4 v30=12 [v30]=v4 return v1");
        // Sides that are changed with each other are no change that counts; nor are / % << >> < by themselves known.
        box = Tape.with("fun f(a,b){[b+a]=a+b;[b*a]=b-a;[a-b]=b<a;[b==a]=b!=a;[b&a]=b|a;[b^a]=a/a;[a%a]=0-a;"
            + "[0/a]=0<<a;return 5/0;}");
        check.same("same of sides", box.same(), 1 + 3);
        are("same of sides", box, "0 under -1 depth 0 from: v0=par0 v1=par1 v2=v0+v1 [v2]=v2 v4=v0*v1 v5=v1-v0 "
            + "[v4]=v5 v6=v0-v1 v7=v1<v0 [v6]=v7 v8=v0==v1 v9=v0!=v1 [v8]=v9 v10=v0&v1 v11=v0|v1 [v10]=v11 "
            + "v12=v0^v1 v13=v0/v0 [v12]=v13 v14=v0%v0 v15=0 v16=v15-v0 [v14]=v16 v18=v15/v0 v20=v15<<v0 [v18]=v20 "
            + "v21=5 v23=v21/v15 return v23");
        // Only what is gone through ahead, in a block that dominates, stands for what is the same.
        box = Tape.with("fun f(a,b){var x=a+b;if a{[1]=b+a;[2]=a*b;}else{[3]=a*b;}return a*b;}");
        check.same("same over blocks", box.same(), 1);
        are("same over blocks", box,
            "0 under -1 depth 0 from: v0=par0 v1=par1 v2=v0+v1 ? v0 1 2",
            "1 under 0 depth 0 from 0: v3=1 [v3]=v2 v5=2 v6=v0*v1 [v5]=v6 go 3",
            "2 under 0 depth 0 from 0: v7=3 v8=v0*v1 [v7]=v8 go 3",
            "3 under 0 depth 0 from 1 2: v9=v0*v1 return v9");
        // A step that becomes a number and then finds the same one counts once.
        box = Tape.with("fun f(){return 14+(2+3*4);}");
        check.same("same of numbers", box.same(), 3);
        are("same of numbers", box, "0 under -1 depth 0 from: v0=14 v1=2 v2=3 v3=4 v4=12 v6=28 return v6");
    }

    private static void joiningPhis() {
        Gearbox box = Tape.with("fun f(a,b){var c=a;var d=b;var e=b;while a{a=a-1;d=c;e=c;}return d+e;}");
        check.same("same of phis", box.same(), 1);
        are("same of phis", box,
            "0 under -1 depth 0 from: v0=par0 v1=par1 go 1",
            "1 under 0 depth 1 from 0 2: v2=phi(v0,v6) v3=phi(v1,v0) ? v2 2 3",
            "2 under 1 depth 1 from 1: v5=1 v6=v2-v5 go 1",
            "3 under 1 depth 0 from 1: v7=v3+v3 return v7");
        // A phi of one value and itself.
        box = Tape.with("fun f(a,b){while a{a=a-1;b=b;}return b;}");
        check.same("same of a phi of itself", box.same(), 1);
        are("same of a phi of itself", box,
            "0 under -1 depth 0 from: v0=par0 v1=par1 go 1",
            "1 under 0 depth 1 from 0 2: v2=phi(v0,v5) ? v2 2 3",
            "2 under 1 depth 1 from 1: v4=1 v5=v2-v4 go 1",
            "3 under 1 depth 0 from 1: return v1");
    }

    private static void dropping() {
        Gearbox box = Tape.with("fun f(a,b){var x=a/b;var y=a/2;var z=a%0;var w=[a];var v=f(a,b);[1]=2;return 3;}");
        check.same("drop", box.drop(), 3);
        are("drop", box, "0 under -1 depth 0 from: v0=par0 v1=par1 v2=v0/v1 v5=0 v6=v0%v5 arg(v0) arg(v1) v8=call0 "
            + "v9=1 v10=2 [v9]=v10 v11=3 return v11");
        box = Tape.with("fun f(a,b){var x=0;while a{x=x+a*b;a=a-1;}return 1;}");
        check.same("drop of phis", box.drop(), 5);
        are("drop of phis", box,
            "0 under -1 depth 0 from: v0=par0 go 1",
            "1 under 0 depth 1 from 0 2: v3=phi(v0,v8) ? v3 2 3",
            "2 under 1 depth 1 from 1: v7=1 v8=v3-v7 go 1",
            "3 under 1 depth 0 from 1: v9=1 return v9");
        check.same("drop again", box.drop(), 0);
    }

    private static void lifting() {
        Gearbox box = Tape.with("fun f(a,b){while a{while b{[b*2]=a+b/3;[1]=a/b;[2]=5/0;}a=a-1;}}");
        check.same("lift", box.lift(), 18);
        are("lift", box,
            "0 under -1 depth 0 from: v0=par0 v1=par1 v3=2 v4=v1*v3 v5=3 v6=v1/v5 v8=1 v10=2 v11=5 v12=0 v14=1 go 1",
            "1 under 0 depth 1 from 0 5: v2=phi(v0,v15) ? v2 2 6",
            "2 under 1 depth 1 from 1: v7=v2+v6 go 3",
            "3 under 2 depth 2 from 2 4: ? v1 4 5",
            "4 under 3 depth 2 from 3: [v4]=v7 v9=v2/v1 [v8]=v9 v13=v11/v12 [v10]=v13 go 3",
            "5 under 3 depth 1 from 3: v15=v2-v14 go 1",
            "6 under 1 depth 0 from 1: v16=0 return v16");
        check.same("lift again", box.lift(), 0);
        // A block that leaves the loop is outside; memory and calls stay where they are.
        box = Tape.with("fun f(a,b){while a{if b{return b*7;}a=a-b*5-[9]-f(1,2);}return 0;}");
        check.same("lift from a loop with a way out", box.lift(), 5);
        are("lift from a loop with a way out", box,
            "0 under -1 depth 0 from: v0=par0 v1=par1 v5=5 v6=v1*v5 v8=9 v11=1 v12=2 go 1",
            "1 under 0 depth 1 from 0 4: v2=phi(v0,v14) ? v2 2 5",
            "2 under 1 depth 1 from 1: ? v1 3 4",
            "3 under 2 depth 0 from 2: v3=7 v4=v1*v3 return v4",
            "4 under 2 depth 1 from 2: v7=v2-v6 v9=[v8] v10=v7-v9 arg(v11) arg(v12) v13=call0 v14=v10-v13 go 1",
            "5 under 1 depth 0 from 1: v15=0 return v15");
    }

    private static void merging() {
        Gearbox box = Tape.with("fun f(a){if a{return 1;}else{return 2;}}");
        check.same("merge of a fork", box.merge(), 0);
        box = Tape.with("fun f(a){while 1{a=a+1;if a>9{break;}}return a;}");
        check.same("fold", box.fold(), 1);
        check.same("merge", box.merge(), 2);
        are("merge", box,
            "0 under -1 depth 0 from: v0=par0 go 1",
            "1 under 0 depth 1 from 0 3: v1=phi(v0,v4) v2=1 v3=1 v4=v1+v3 v5=9 v6=v4>v5 ? v6 2 3",
            "2 under 1 depth 0 from 1: return v4",
            "3 under 1 depth 1 from 1: go 1");
        check.same("merge again", box.merge(), 0);
        // A loop without an end is not merged with itself.
        box = Tape.with("fun f(){while 1{}}");
        box.fold();
        check.same("merge of a loop", box.merge(), 1);
        are("merge of a loop", box,
            "0 under -1 depth 0 from: go 1",
            "1 under 0 depth 1 from 0 1: v0=1 go 1");
    }

    private static void settling() {
        Gearbox box = Tape.with("fun f(a,b){return a+b;}");
        check.same("settle of what is settled", box.settle(), 1);
        box = Tape.with("fun f(a){var x=2;var y=3;if x<y{a=a+x*y;}else{a=0;}while x-2{x=x+1;}return a+x;}");
        check.same("settle", box.settle(), 2);
        are("settle", box, "0 under -1 depth 0 from: v0=par0 v1=2 v4=6 v5=v0+v4 v13=v1+v5 return v13");
        check.same("settle again", box.settle(), 1);
        // Code that is there stays, whatever the passes do.
        box = Tape.with("fun f(a){while a{a=a-(2+3);}return a;}");
        box.allocate(3);
        String code = Dump.code(box, 0);
        box.settle();
        check.isTrue("the code is as before", code.equals(Dump.code(box, 0)));
    }

    private static void allFunctions() {
        String one = "{while a{a=a-(2-1);[a]=a+0;}var x=3;if 1{return a*1;}return 2;}";
        Gearbox box = Tape.with("fun f(a)" + one + "fun g(b){return b;}fun h(a)" + one);
        Gearbox alone = Tape.with("fun f(a)" + one);
        check.same("lift of two functions", box.lift(), 2 * alone.lift());
        check.same("fold of two functions", box.fold(), 2 * alone.fold());
        check.same("same of two functions", box.same(), 2 * alone.same());
        check.same("drop of two functions", box.drop(), 2 * alone.drop());
        check.same("merge of two functions", box.merge(), 2 * alone.merge());
        check.isTrue("both are alike", Dump.blocks(box, 0).equals(Dump.blocks(box, 2))
            && Dump.blocks(box, 0).equals(Dump.blocks(alone, 0)));
    }
}
