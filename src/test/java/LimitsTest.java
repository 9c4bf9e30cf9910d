/** Programs at the bounds of the document and past them: answers as the Oracle's, and nothing is ever thrown. */
public final class LimitsTest {
    private static final Check check = new Check("LimitsTest");

    public static void main(String[] args) {
        longTests();
        manyStatements();
        nested();
        counts();
        copies();
        calls();
        check.end();
    }

    private static void go(String whole) {
        String text = whole.substring(0, Math.min(whole.length(), 1200));
        String what = "'" + text.substring(0, Math.min(text.length(), 60)) + "' of " + text.length() + " bytes";
        Oracle oracle = new Oracle();
        Gearbox box = new Gearbox();
        int error = oracle.load(text);
        check.same("load of " + what, Tape.load(box, text), error);
        check.same("errorAt of " + what, box.errorAt(), oracle.errorAt);
        check.same("digest of " + what, box.digest(), oracle.digest());
        if (error != 0) {
            return;
        }
        for (int registers = 3; registers <= 8; registers += 5) {
            check.same("allocate of " + what, box.allocate(registers), oracle.allocate(registers));
            check.same("digest behind allocate of " + what, box.digest(), oracle.digest());
        }
        for (int way = 0; way < 3; way++) {
            check.same("run " + way + " of " + what, box.run(way, 0, 3, 2, 1, 4), oracle.run(way, 0, 3, 2, 1, 4));
            check.same("digest behind run " + way + " of " + what, box.digest(), oracle.digest());
        }
        check.same("settle of " + what, box.settle(), oracle.settle());
        check.same("allocate behind settle of " + what, box.allocate(4), oracle.allocate(4));
        check.same("digest behind settle of " + what, box.digest(), oracle.digest());
        check.same("differences of " + what, box.differences(0, 0, 5), 0);
    }

    private static void longTests() {
        go("fun f(a){return a" + "&&a".repeat(9) + ";}");
        go("fun f(a){return a" + "&&a".repeat(295) + ";}");
        go("fun f(a){return a" + "+a".repeat(296) + ";}");
        go("fun f(a){return 0;" + ("return a" + "&&a".repeat(9) + ";").repeat(26) + "}");
        go("fun f(a){return 0;" + ("a=a" + "&&a".repeat(9) + ";").repeat(25) + "}");
        go("fun f(a){return 0;" + ("a=!a" + "&&!a".repeat(8) + ";").repeat(19) + "}");
        go("fun f(a){return 0;" + ("a=-a" + "||-a".repeat(8) + ";").repeat(19) + "}");
        go("fun f(a,b,c,d){f(1,2,3,f(1,2,3,f(1,2,3,f(1,2,3,f(1,2,3,f(1,2,3,f(1,2,3,4)))))));}");
        go("fun f(a,b,c,d){f(f(f(f(f(f(a,a,a,b),a,a,f(1,2,3,4)),1,1,1),1,1,1),1,1,1),2,2,f(1,1,1,1));}");
        go("fun f(a,b,c,d){return 1+(2*(3-(4+(5*(6-(7+[a*[b]]))))));}");
        go("fun f(a,b,c,d){a=1+(2+(a+(b+(c+(d+(a+b))))))*(a-(b-(c-(d-(a-b*c)))));return a+[b]+[c]+[d];}");
        go("fun f(a,b){return (a&&(b||(a&&(b||(a&&b)))))||(b&&(a||(b&&a)));}");
    }

    private static void manyStatements() {
        go("fun f(a){return 0;" + "while a{}".repeat(120) + "}");
        go("fun f(a){return 0;" + "while a{break;}".repeat(78) + "}");
        go("fun f(a){return 0;" + "if a{}".repeat(145) + "}");
        go("fun f(a){return 0;" + "if a{}else{}".repeat(83) + "}");
        go("fun f(a){while a{" + "break;".repeat(190) + "}}");
        go("fun f(a){while a{" + "continue;".repeat(128) + "}}");
        go("fun f(a){" + "return a;".repeat(128) + "}");
        for (int n = 17; n < 22; n++) {
            go("fun f(a){" + "if a{}".repeat(n) + "}");
            go("fun f(a){" + "if a{a=a-1;}".repeat(n) + "return a;}");
            go("fun f(a){" + "while a{a=a-1;}".repeat(n) + "}");
            go("fun f(a,b){while b{b=b-1;" + "if a{continue;}".repeat(n + 6) + "}}");
            go("fun f(a,b){while b{b=b-1;" + "if a{break;}".repeat(n + 6) + "}return b;}");
        }
    }

    private static void nested() {
        for (int n = 5; n < 9; n++) {
            go("fun f(a){a=" + "(".repeat(n) + "a" + ")".repeat(n) + ";}");
            go("fun f(a){a=" + "[".repeat(n) + "a" + "]".repeat(n) + ";}");
            go("fun f(a){" + "while a{a=a-1;".repeat(n) + "break;" + "}".repeat(n) + "return a;}");
            go("fun f(a){" + "while a{a=a-1;".repeat(n) + "}".repeat(n) + "return a;}");
            go("fun f(a){" + "if a{a=a-1;".repeat(n) + "}".repeat(n) + "return a;}");
            go("fun f(a){a=" + "f(".repeat(n) + "a" + ")".repeat(n) + ";}");
            go("fun f(a){" + "while a&&[a]{".repeat(n) + "}".repeat(n) + "}");
        }
    }

    private static void counts() {
        String nineteen = "a=1" + "+1".repeat(9) + ";";
        for (int n = 18; n < 23; n++) {
            go("fun f(a){" + nineteen.repeat(12) + "a=1;".repeat(n) + "return a;}");
            go("fun f(a){" + nineteen.repeat(12) + "a=1;".repeat(n - 3) + "if a{a=2;}return a;}");
        }
        for (int n = 146; n < 151; n++) {
            go("fun f(a){" + "a=a;".repeat(n) + "}");
            go("fun f(){" + "f();".repeat(n) + "}");
        }
        go("fun a(){}fun b(){}fun c(){}fun d(){}fun e(){}fun f(){}");
        go("fun a(){}fun b(){}fun c(){}fun d(){}fun e(){}fun f(){}fun g(){}");
        go("fun a(){}".repeat(6));
    }

    private static void copies() {
        for (int variables = 4; variables <= 32; variables += 7) {
            StringBuilder text = new StringBuilder("fun f(p,q){");
            for (int n = 0; n < variables; n++) {
                text.append("var v").append(Integer.toString(n, 36)).append("=p;");
            }
            text.append("while q{q=q-1;");
            for (int n = 0; n + 1 < variables; n += 2) {
                String one = "v" + Integer.toString(n, 36);
                String other = "v" + Integer.toString(n + 1, 36);
                text.append("p=" + one + ";" + one + "=" + other + ";" + other + "=p;");
            }
            text.append("if q{continue;}".repeat(Math.min(26, (1150 - text.length()) / 15)));
            go(text + "}return v0;}");
        }
    }

    private static void calls() {
        go("fun f(a){return g(a)+1;}fun g(a){if a>6{return a;}return f(a+1)*2;}");
        go("fun f(a,b,c,d){if a>9{return b;}return f(a+1,c,d,b)+f(a+1,d,b,c);}");
        go("fun f(){while 1{g();}}fun g(){while 0{}}");
        go("fun f(){while 1{}}");
        go("fun f(){return 1/0;}");
        go("fun f(){[0]=1;while 1{[0]=[0]+1;}}");
    }
}
