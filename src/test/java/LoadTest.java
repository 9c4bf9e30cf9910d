/** Promises 4 to 6: load with all its errors, errorAt, restore. */
public final class LoadTest {
    private static final Check check = new Check("LoadTest");
    // 19 values.
    private static final String NINETEEN = "a=1" + "+1".repeat(9) + ";";

    public static void main(String[] args) {
        programs();
        tokens();
        grammar();
        bounds();
        heights();
        names();
        arguments();
        leaves();
        tooManyBlocks();
        tooManyValues();
        wrongLoads();
        restores();
        check.end();
    }

    /** A text with an error, whose place has the mark @ ahead of it. */
    private static void wrong(int error, String marked) {
        int place = marked.indexOf('@');
        String text = marked.replace("@", "");
        Gearbox box = new Gearbox();
        check.same("load of '" + text + "'", Tape.load(box, text), error);
        check.same("errorAt of '" + text + "'", box.errorAt(), place);
        check.same("functions of '" + text + "'", box.functions(), 0);
    }

    private static void right(String text) {
        Gearbox box = new Gearbox();
        check.same("load of '" + text + "'", Tape.load(box, text), 0);
        check.same("errorAt of '" + text + "'", box.errorAt(), -1);
        check.isTrue("there are functions in '" + text + "'", box.functions() > 0);
    }

    private static void programs() {
        right("fun f(){}");
        right(" \n fun\nf ( ) { } \n");
        right("fun f(a,b,c,d){var e=a;e=b;[c]=d;f(a,b,c,d);if e{}else{}while e{break;continue;}return -(!e);}");
        right("fun f(){return 1+2-3|4^5*6/7%8&9<<1>>2<3;}");
        right("fun f(){return (1<2)<=((3>4)==0);}");
        right("fun f(){return 1<2&&3>=4||5!=6&&![7];}");
        right("fun f(){return 1- -1;}");
        right("fun ab(){var a1=000000000;ab();}");
    }

    private static void tokens() {
        right("fun abcdefgh(){}");
        wrong(1, "fun @abcdefghi(){}");
        right("fun f(){var a=123456789;}");
        wrong(1, "fun f(){var a=@1234567890;}");
        wrong(1, "fun f(){var a=12@ab;}");
        wrong(1, "fun f(){@\t}");
        wrong(1, "fun f(){@\r}");
        wrong(1, "fun @F(){}");
        wrong(1, "fun f@_(){}");
        wrong(1, "@Fun f(){}");
        wrong(1, "fun f(){}@\0");
        wrong(1, "fun f(){}@\u00e4");
        wrong(1, "fun f(){return 1&&@&1;}");
        wrong(1, "fun f(){return 1||@|1;}");
        wrong(1, "fun f(){return 1<<@=1;}");
        wrong(1, "fun f(){return 1==@=1;}");
        wrong(1, "fun f(){return 1!=@=1;}");
        wrong(1, "fun f(){var @if=1;}");
        right("fun f(){var ifs=1;}");
        right("fun f(){var funvar=1;}");
        // Seven tokens round 147 statements of four each and one of five: 600 in all.
        String most = "fun f(a){" + "a=a;".repeat(147);
        right(most + "a=-a;}");
        wrong(1, most + "a=a+a;@}");
        wrong(1, most + "a=a;}fun @g(){}");
        wrong(1, most + "a=a;a=@a;}");
    }

    private static void grammar() {
        wrong(1, "@");
        wrong(1, " \n @");
        wrong(1, "@x");
        wrong(1, "fun@");
        wrong(1, "fun f@");
        wrong(1, "fun f(@");
        wrong(1, "fun f(a@");
        wrong(1, "fun f(a,@");
        wrong(1, "fun f(a,@)");
        wrong(1, "fun f(@,a){}");
        wrong(1, "fun f(a @b){}");
        wrong(1, "fun f(a)@");
        wrong(1, "fun f(){@");
        wrong(1, "fun f(){} @x");
        wrong(1, "fun f(){}@}");
        wrong(1, "fun f(){@{}}");
        wrong(1, "fun f(){@else{}}");
        wrong(1, "fun f(){if 1{}else @if 1{}}");
        wrong(1, "fun f(a){a @1;}");
        wrong(1, "fun f(a){a@;}");
        wrong(1, "fun f(){f()@+1;}");
        wrong(1, "fun f(){return@;}");
        wrong(1, "fun f(){[1]=@;}");
        wrong(1, "fun f(){[@]=1;}");
        wrong(1, "fun f(){[1]@;}");
        wrong(1, "fun f(){[1]=2@}");
        wrong(1, "fun f(){return 1<2@<3;}");
        wrong(1, "fun f(){return 1==2@<3;}");
        wrong(1, "fun f(){return -@-1;}");
        wrong(1, "fun f(){return !@-1;}");
        wrong(1, "fun f(){break @1;}");
        wrong(1, "fun f(){if 1 @2{}}");
        wrong(1, "fun f(){if @{}}");
        wrong(1, "fun f(){while 1@;}");
        wrong(1, "fun f(){f(1,@);}");
        wrong(1, "fun f(){f(@,1);}");
        wrong(1, "fun f(){return ((1)@;}");
        wrong(1, "fun f(){return [1@);}");
        wrong(1, "fun f(){var a@;}");
        wrong(1, "fun f(){var @1=1;}");
        // The first error in the text counts, and only then others.
        wrong(1, "fun f(){a=1;break;return 1+1+1+1+1+1+1+1+1+1+1;@");
    }

    private static void bounds() {
        right("fun a(){}fun b(){}fun c(){}fun d(){}fun e(){}fun f(){}");
        wrong(1, "fun a(){}fun b(){}fun c(){}fun d(){}fun e(){}fun f(){}@fun g(){}");
        right("fun f(a,b,c,d){}");
        wrong(1, "fun f(a,b,c,d,@e){}");
        wrong(1, "fun f(a,b,c,d,@)");
        wrong(1, "fun f(a,b,c,d,@");
        wrong(1, "fun f(a,b,c,d @e){}");
        right("fun f(a,b,c,d){f(1,2,3,4);}");
        wrong(1, "fun f(a,b,c,d){f(1,2,3,4,@5);}");
        wrong(1, "fun f(a,b,c,d){f(1,2,3,4,@);}");
        wrong(1, "fun f(a,b,c,d){f(1,2,3,4,@");
        // The function's own bracket is one of the eight.
        right("fun f(a){a=(((((((a)))))));}");
        wrong(1, "fun f(a){a=(((((((@(a))))))));}");
        right("fun f(a){a=[[[[[[[a]]]]]]];}");
        wrong(1, "fun f(a){a=[[[[[[[@[a]]]]]]]];}");
        right("fun f(a){" + "if a{".repeat(7) + "}".repeat(7) + "}");
        wrong(1, "fun f(a){" + "if a{".repeat(7) + "if a@{}" + "}".repeat(7) + "}");
        wrong(1, "fun f(a){" + "while a{".repeat(7) + "f@(a);" + "}".repeat(7) + "}");
        wrong(1, "fun f(a){" + "while a{".repeat(7) + "@[a]=a;" + "}".repeat(7) + "}");
        // Brackets that are closed again do not count.
        right("fun f(a){" + "a=(a);".repeat(20) + "a=((a)+(a)+((a)));}");
    }

    private static void heights() {
        right("fun f(a){return a+a+a+a+a+a+a+a+a+a;}");
        wrong(2, "fun f(a){return a+a+a+a+a+a+a+a+a+a@+a;}");
        wrong(2, "fun f(a){return a+a+a+a+a+a+a+a+a+a@+a+a+a;}");
        right("fun f(a){return a+a+a+a+(a+a+a+a+a+a);}");
        right("fun f(a){return -(a+a+a+a+a+a+a+a+a);}");
        wrong(2, "fun f(a){return @-(a+a+a+a+a+a+a+a+a+a);}");
        wrong(2, "fun f(a){return @!(a+a+a+a+a+a+a+a+a+a);}");
        wrong(2, "fun f(a){return @f(a+a+a+a+a+a+a+a+a+a);}");
        wrong(2, "fun f(a){@f(a+a+a+a+a+a+a+a+a+a);}");
        wrong(2, "fun f(a){return @[a+a+a+a+a+a+a+a+a+a];}");
        wrong(2, "fun f(a){return a&&a&&a&&a&&a&&a&&a&&a&&a&&a@&&a;}");
        wrong(2, "fun f(a){return a@<a*a*a*a*a*a*a*a*a*a;}");
        // Neither round brackets nor the [ ] on the left of a = make it higher.
        right("fun f(a){[a+a+a+a+a+a+a+a+a+a]=a;}");
        right("fun f(a){return ((a+a+a+a+a+a+a+a+a+a));}");
        // A call without arguments has the height 1.
        right("fun f(){return f()+1+1+1+1+1+1+1+1+1;}");
        wrong(2, "fun f(){return f()+1+1+1+1+1+1+1+1+1@+1;}");
        // Of several the first place, though what is too high there is so by what stands behind.
        wrong(2, "fun f(a){return @!(a+a+a+a+a+a+a+a+a+a+a);}");
        wrong(2, "fun f(a){a=a+a+a+a+a+a+a+a+a+a@+a;a=!(a+a+a+a+a+a+a+a+a+a);}");
        // Error 2 goes ahead of 3, 4, 5 and 6, wherever these are.
        wrong(2, "fun f(){b=1;f(2);break;return 1+1+1+1+1+1+1+1+1+1@+1;}");
    }

    private static void names() {
        wrong(3, "fun f(){}fun @f(){}");
        wrong(3, "fun f(a,@a){}");
        wrong(3, "fun f(a,b,c,@b){}");
        wrong(3, "fun f(a){var @a=1;}");
        wrong(3, "fun f(){var a=@a;}");
        wrong(3, "fun f(){var a=1;var @a=2;}");
        wrong(3, "fun f(){var a=1;if 1{var @a=2;}}");
        right("fun f(){if 1{var a=1;}else{var a=2;}var a=3;}");
        wrong(3, "fun f(){if 1{var a=1;}@a=2;}");
        wrong(3, "fun f(){if 1{var a=1;}else{@a=2;}}");
        wrong(3, "fun f(){@a=1;var a=2;}");
        wrong(3, "fun f(){[@b]=1;}");
        wrong(3, "fun f(){[1]=@b;}");
        wrong(3, "fun f(){while @b{}}");
        wrong(3, "fun f(){@g();}");
        wrong(3, "fun f(a){f(@b);}");
        right("fun f(){g();}fun g(){}");
        right("fun f(f){var g=f;g(g);}fun g(a){}");
        right("fun f(a){}fun g(a){var f=a;}");
        wrong(3, "fun f(a){var b=a;}fun g(){var a=@b;}");
        wrong(3, "fun f(a){}fun g(){return @a;}");
        // What is seen nowhere is an error even where nothing leads.
        wrong(3, "fun f(){return 1;@a=2;}");
    }

    private static void arguments() {
        wrong(4, "fun f(a){@f();}");
        wrong(4, "fun f(){@f(1);}");
        wrong(4, "fun f(){return @g(1,2);}fun g(a){}");
        // Of two functions of one name the first one counts.
        wrong(4, "fun g(){@f();}fun f(a){}fun f(){}");
        wrong(3, "fun g(){f(1);}fun f(a){}fun @f(){}");
        // What comes first in the text is told.
        wrong(4, "fun g(a){@g(b,1);}");
        wrong(3, "fun g(a){a=@b+g(1,1);}");
    }

    private static void leaves() {
        wrong(5, "fun f(){@break;}");
        wrong(5, "fun f(){@continue;}");
        wrong(5, "fun f(){if 1{@break;}}");
        wrong(5, "fun f(){while 1{break;} @continue;}");
        right("fun f(){while 1{if 1{break;}else{continue;}}}");
        wrong(5, "fun f(){while 1{}}fun g(){@break;}");
        wrong(5, "fun f(){@break;a=1;}");
        wrong(3, "fun f(){@a=1;break;}");
    }

    private static void tooManyBlocks() {
        // An if alone makes two blocks, and one more is put on the way past it.
        String nineteen = "if a{}".repeat(19);
        check.same("blocks of 19 ifs", Tape.with("fun f(a){" + nineteen + "}").blocks(0), 58);
        check.same("blocks of one more that returns", Tape.with("fun f(a){" + nineteen + "if a{return 1;}}").blocks(0),
            60);
        wrong(6, "fun @f(a){" + nineteen + "if a{}}");
        wrong(6, "fun g(){}fun @f(a){" + nineteen + "if a{}}fun h(a){" + nineteen + "if a{}}");
        // Blocks that cannot be reached do not count.
        right("fun f(a){return 1;" + "if a{}".repeat(40) + "}");
        // Error 6 comes only without all others.
        wrong(3, "fun f(a){" + nineteen + "if a{}}fun g(){@b=1;}");
    }

    private static void tooManyValues() {
        // A parameter, 12 times 19 values, 20 numbers, and the 0 at the end.
        String most = "fun f(a){" + NINETEEN.repeat(12) + "a=1;".repeat(20) + "}";
        check.same("values", Tape.with(most).values(0), 250);
        wrong(6, "fun @f(a){" + NINETEEN.repeat(12) + "a=1;".repeat(21) + "}");
        // Phis count too.
        String phi = "fun f(a){" + NINETEEN.repeat(12) + "a=1;".repeat(18) + "if a{a=2;}return a;}";
        check.same("values with a phi", Tape.with(phi).values(0), 250 - 1);
        right(phi.replace("return", "[a]=a;a=1;return"));
        wrong(6, phi.replace("fun f", "fun @f").replace("return", "[a]=a;a=1;a=1;return"));
    }

    private static void wrongLoads() {
        Gearbox box = Tape.with("fun f(a){[1]=7;return a+1;}fun g(){}");
        box.run(1, 0, 4, 0, 0, 0);
        box.allocate(3);
        String[] texts = {"", "x", "fun h(){return 1+1+1+1+1+1+1+1+1+1+1;}", "fun h(){a=1;}", "fun h(){h(1);}",
            "fun h(){break;}", "fun h(a){" + "if a{}".repeat(20) + "}"};
        int[] places = {0, 0, 34, 8, 8, 8, 4};
        for (int error = 1; error <= 6; error++) {
            check.same("load with error " + error, Tape.load(box, texts[error]), error);
            check.same("place of error " + error, box.errorAt(), places[error]);
            check.same("the tape is empty behind error " + error, box.feed(0, 0, 0, 0, 0), 20);
            check.same("functions behind error " + error, box.functions(), 2);
            check.same("parameters behind error " + error, box.parametersOf(0), 1);
            check.same("result behind error " + error, box.result(), 5);
            check.same("word 1 behind error " + error, box.word(1), 7);
            check.isTrue("code behind error " + error, box.lines(0) > 0);
            for (int way = 0; way < 3; way++) {
                check.same("run " + way + " behind error " + error, box.run(way, 0, 4, 0, 0, 0), 0);
                check.same("result of run " + way + " behind error " + error, box.result(), 5);
            }
        }
        check.same("load without an error", Tape.load(box, "fun h(a,b){}"), 0);
        check.same("errorAt", box.errorAt(), -1);
        check.same("functions", box.functions(), 1);
        check.same("parameters", box.parametersOf(0), 2);
        check.same("outcome", box.outcome(), 0);
        check.same("result", box.result(), 0);
        check.same("stepsRun", box.stepsRun(), 0);
        check.same("word 1", box.word(1), 0);
        check.same("lines", box.lines(0), 0);
        check.raises("there is no code", IllegalStateException.class, () -> box.run(2, 0, 0, 0, 0, 0));
    }

    private static void restores() {
        Gearbox box = Tape.with("fun f(a){while a{a=a-1;}return 2+3;}fun g(){if 1{return 4;}}");
        long fresh = box.digest();
        int blocks = box.blocks(0) + box.blocks(1);
        box.settle();
        box.allocate(4);
        check.isTrue("the blocks are others now", box.digest() != fresh);
        check.same("restore", box.restore(), blocks);
        check.same("all is as behind load", box.digest(), fresh);
        check.raises("there is no code", IllegalStateException.class, () -> box.run(2, 0, 0, 0, 0, 0));
        box.run(0, 0, 3, 0, 0, 0);
        int steps = box.stepsRun();
        box.restore();
        check.same("restore leaves the steps of the latest run", box.stepsRun(), steps);
        check.same("and its result", box.result(), 5);
    }
}
