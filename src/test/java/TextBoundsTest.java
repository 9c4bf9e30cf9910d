/** Section 1 of the document and promises 1 to 6, sentence by sentence: at each bound, and one beyond it. */
public final class TextBoundsTest {
    private static final Check check = new Check("TextBoundsTest");
    private static final String[] KEYWORDS = {"break", "continue", "else", "fun", "if", "return", "var", "while"};
    // A function that has no error, with each kind of statement and test.
    private static final String SAMPLE = "fun g ( ) { } fun f ( a , b ) { var c = a + b * 2 ; c = c - 1 ; [ a ] = ! b ; "
        + "f ( a , g ( ) ) ; if a < b { return 1 ; } else { c = - ( a ) ; } while a && [ b ] || c { break ; continue ; } "
        + "return c ; }";

    public static void main(String[] args) {
        tape();
        feeding();
        trimming();
        loading();
        wrongLoading();
        oneBehindTheOther();
        errorPlaces();
        restoring();
        gaps();
        longestTokens();
        words();
        numbers();
        signs();
        otherBytes();
        manyTokens();
        keywords();
        repeats();
        rows();
        functions();
        parameters();
        arguments();
        openBrackets();
        heights();
        heightPlaces();
        firstError();
        order();
        functionNames();
        parameterNames();
        newVariables();
        variables();
        calledNames();
        argumentCounts();
        leaves();
        tooManyBlocks();
        tooManyValues();
        aheadOfPasses();
        scopes();
        sameNames();
        check.end();
    }

    // ---- what all of these need

    /** A text with an error, whose place has the mark @ ahead of it. */
    private static void wrong(int error, String marked) {
        int place = marked.indexOf('@');
        wrongAt(error, place, marked.replace("@", ""));
    }

    private static void wrongAt(int error, int place, String text) {
        Gearbox box = new Gearbox();
        check.same("load of '" + text + "'", Tape.load(box, text), error);
        check.same("errorAt of '" + text + "'", box.errorAt(), place);
        check.same("functions of '" + text + "'", box.functions(), 0);
        Gearbox other = usedFor(text);
        long digest = other.digest();
        check.same("load behind others of '" + text + "'", Tape.load(other, text), error);
        check.same("errorAt behind others of '" + text + "'", other.errorAt(), place);
        Tape.load(other, "");
        check.same("digest behind others of '" + text + "'", other.digest(), digest);
    }

    private static Gearbox right(String text) {
        Gearbox box = new Gearbox();
        check.same("load of '" + text + "'", Tape.load(box, text), 0);
        check.same("errorAt of '" + text + "'", box.errorAt(), -1);
        Gearbox other = usedFor(text);
        check.same("load behind others of '" + text + "'", Tape.load(other, text), 0);
        check.same("digest behind others of '" + text + "'", other.digest(), box.digest());
        return box;
    }

    // One object for many texts: none may leave anything behind.
    private static Gearbox used;
    private static int calls;

    /** An object that has read other texts, and has room for the calls that one more takes; its errorAt is 0. */
    private static Gearbox usedFor(String text) {
        int more = (text.length() + 19) / 20 + 8;
        if (used == null || calls + more > 512) {
            used = new Gearbox();
            calls = 0;
            more += 3;
        }
        calls += more;
        Tape.load(used, "");
        return used;
    }

    private static void trimRefused(Gearbox box, int bytes) {
        check.refuses("trim(" + bytes + ")", box, IllegalArgumentException.class, () -> box.trim(bytes));
    }

    /** How long the tape is: no more can stay than there is. */
    private static void isLong(String what, Gearbox box, int due) {
        check.raises(what + ": trim to one more", IllegalArgumentException.class, () -> box.trim(due + 1));
        check.same(what + ": trim to all", box.trim(due), due);
    }

    private static int feedBlanks(Gearbox box) {
        return box.feed(0x20202020, 0x20202020, 0x20202020, 0x20202020, 0x20202020);
    }

    // ---- the tape

    private static void tape() {
        check.says("The tape is a row of at most 1200 bytes (none, at first), which feed() and trim() change; load() "
            + "reads it as a program.");
        Gearbox box = new Gearbox();
        isLong("at first", box, 0);
        check.same("load of nothing", box.load(), 1);
        check.same("place of the error of nothing", box.errorAt(), 0);
        String program = "fun f(){return 7;}";
        String full = " ".repeat(1200 - program.length()) + program;
        Tape.put(box, full);
        isLong("full", box, 1200);
        check.same("load of 1200 bytes, with the last one", box.load(), 0);
        box.run(0, 0, 0, 0, 0, 0);
        check.same("result", box.result(), 7);
        wrongAt(1, 1199, full.substring(0, 1199));
        wrongAt(1, 1200, " ".repeat(1197) + "fun");
        wrongAt(1, 1199, " ".repeat(1199) + "f");
        check.says("Creates a compiler without a program and without code, with an empty tape.");
        Gearbox fresh = new Gearbox();
        check.same("functions", fresh.functions(), 0);
        check.same("load", fresh.load(), 1);
        check.raises("its code", IndexOutOfBoundsException.class, () -> fresh.lines(0));
    }

    private static void feeding() {
        check.says("Throws `IllegalStateException` if there would be more than 1200");
        for (int length = 1176; length <= 1200; length++) {
            Gearbox box = new Gearbox();
            for (int n = 0; n < 60; n++) {
                feedBlanks(box);
            }
            box.trim(length);
            if (length <= 1180) {
                check.same("feed behind " + length + " bytes", feedBlanks(box), length + 20);
            } else {
                check.refuses("feed behind " + length + " bytes", box, IllegalStateException.class,
                    () -> box.feed(-1, -1, -1, -1, -1));
                isLong("behind a feed that was refused", box, length);
                check.same("load: nothing of it is there", box.load(), 1);
                check.same("the end", box.errorAt(), length);
            }
        }
        check.says("Returns how many bytes the tape has then.");
        Gearbox box = new Gearbox();
        for (int n = 1; n <= 60; n++) {
            check.same("feed " + n, feedBlanks(box), 20 * n);
        }
        box.trim(1);
        check.same("feed behind 1 byte", feedBlanks(box), 21);
        check.says("Appends twenty bytes to the tape: the four bytes of each number, the highest one first.");
        for (int ahead = 0; ahead <= 20; ahead += 20) {
            for (int place = 0; place < 20; place++) {
                for (int other : new int[] {'x', 0, 127, 128, 255}) {
                    Gearbox one = new Gearbox();
                    if (ahead > 0) {
                        feedBlanks(one);
                    }
                    int[] words = {0x20202020, 0x20202020, 0x20202020, 0x20202020, 0x20202020};
                    int shift = 8 * (3 - place % 4);
                    words[place / 4] = words[place / 4] & ~(255 << shift) | other << shift;
                    one.feed(words[0], words[1], words[2], words[3], words[4]);
                    check.same("load with a byte of " + other, one.load(), 1);
                    check.same("place of byte " + place, one.errorAt(), ahead + place);
                }
            }
        }
    }

    private static void trimming() {
        check.says("Throws `IllegalArgumentException` if bytes is not 0 to how many there are");
        for (int length : new int[] {0, 1, 19, 20, 21, 1199, 1200}) {
            Gearbox box = new Gearbox();
            for (int n = 0; n < length; n += 20) {
                feedBlanks(box);
            }
            check.same("trim", box.trim(length), length);
            for (int bytes : new int[] {-1, length + 1, Integer.MIN_VALUE, Integer.MAX_VALUE}) {
                trimRefused(box, bytes);
            }
            isLong("behind trims that were refused", box, length);
            check.same("trim to 0", box.trim(0), 0);
            trimRefused(box, 1);
        }
        check.says("Shortens the tape: only its first bytes stay.");
        Gearbox box = new Gearbox();
        Tape.put(box, "fun f(){}}");
        check.same("trim", box.trim(9), 9);
        check.same("load of what stays", box.load(), 0);
        Tape.put(box, "fun f(){}");
        check.same("trim", box.trim(8), 8);
        check.same("load of one less", box.load(), 1);
        check.same("the end", box.errorAt(), 8);
        // What was trimmed does not come back.
        Tape.put(box, "fun f(){}");
        box.trim(0);
        feedBlanks(box);
        check.same("load of blanks", box.load(), 1);
        check.same("the end of blanks", box.errorAt(), 20);
        check.says("Returns how many.");
        Tape.put(box, "fun f(){}");
        for (int bytes = 9; bytes >= 0; bytes--) {
            check.same("trim", box.trim(bytes), bytes);
        }
    }

    // ---- load, errorAt, restore

    private static void loading() {
        check.says("Reads the tape as a program, and empties it.");
        Gearbox box = new Gearbox();
        for (String text : new String[] {"", "x", "fun f(){}", "fun f(){a=1;}", "fun f(){}"}) {
            Tape.load(box, text);
            isLong("behind load of '" + text + "'", box, 0);
            check.same("feed behind load", feedBlanks(box), 20);
            box.trim(0);
        }
        check.says("Without an error this is the program then, with blocks as in section 3, without code, and nothing was "
            + "run;");
        String second = "fun g(x,y){while x{x=x-y;}[1]=2;return 2+3;}fun h(){}";
        Gearbox used = Tape.with("fun f(a){[2]=3;return a;}");
        used.settle();
        used.allocate(3);
        used.run(2, 0, 4, 0, 0, 0);
        check.same("load of another program", Tape.load(used, second), 0);
        check.same("all is as in a new object", Dump.all(used), Dump.all(Tape.with(second)));
        check.same("digest", used.digest(), Tape.with(second).digest());
        check.same("lines", used.lines(0), 0);
        check.raises("run of code", IllegalStateException.class, () -> used.run(2, 0, 0, 0, 0, 0));
        // The same program once more begins anew, too.
        used.settle();
        used.allocate(8);
        used.run(1, 0, 4, 2, 0, 0);
        check.same("load of the same program", Tape.load(used, second), 0);
        check.same("all is as in a new object", Dump.all(used), Dump.all(Tape.with(second)));
    }

    private static final String[] WRONG = {"", "fun h(){return @", "fun h(){return 1+1+1+1+1+1+1+1+1+1@+1;}", "fun h(){@a=1;}",
        "fun h(){@h(1);}", "fun h(){@break;}", "fun @h(a){" + "if a{}".repeat(20) + "}"};

    private static void wrongLoading() {
        check.says("otherwise all stays as it was, but the tape and errorAt().");
        for (int state = 0; state < 4; state++) {
            Gearbox box = new Gearbox();
            if (state > 0) {
                Tape.load(box, "fun f(a){[1]=7;var x=a;while x{x=x-1;a=a+(2*3);}return a/0;}fun g(){}");
            }
            if (state > 1) {
                box.settle();
            }
            if (state > 2) {
                box.allocate(3);
                box.run(2, 0, 3, 0, 0, 0);
            }
            String before = Dump.all(box);
            for (int error = 1; error <= 6; error++) {
                String text = WRONG[error].replace("@", "");
                check.same("load with error " + error, Tape.load(box, text), error);
                check.same("its place", box.errorAt(), WRONG[error].indexOf('@'));
                check.same("all that there was", Dump.all(box), before);
                isLong("behind error " + error, box, 0);
            }
            if (state > 2) {
                check.same("the code still runs", box.run(2, 0, 3, 0, 0, 0), 1);
                check.same("the text still runs", box.run(0, 0, 3, 0, 0, 0), 1);
                check.same("restore makes the blocks of the program that stayed", box.restore(), 5);
            }
        }
        check.says("Returns the error, 1 to 6; 0 for none.");
        Gearbox box = new Gearbox();
        for (int error = 6; error >= 1; error--) {
            check.same("load", Tape.load(box, WRONG[error].replace("@", "")), error);
            check.same("load", Tape.load(box, "fun f(){}"), 0);
        }
    }

    // An error, or 0, and a text; the mark @ is where the error is. What is open or seen where one ends is not in the next one.
    private static final String[] PAIRS = {"1fun f(a){while a{while a{if a{a=((((@", "1fun f(a){while a{while a{while a{while a{while a{while a{"
        + "while a{if a@{}", "1fun f(a,b,c,d){var e=1;while a{f(1,2,3,4,@5);}}", "1@", "1fun f(a){a=a+a+a+a+a+a+a+a+a+a+a;@",
        "2fun f(a){a=a+a+a+a+a+a+a+a+a+a@+a;}", "3fun f(){return @a;}", "3fun f(){while 1{@e=1;break;}}", "3fun g(){}fun f(){@h();}",
        "4fun f(a){@f();}", "5fun f(){@break;}", "5fun f(a){@continue;a=1;}", "6fun @f(a){ATOO}", "0fun f(a){a=(((((((a)))))));}",
        "0fun f(a){a=a+a+a+a+a+a+a+a+a+a;}", "0fun a(){}fun b(){}fun c(){}fun d(){}fun e(){}fun f(){}",
        "0fun f(a,b){while a{if b{continue;}break;}if b{var c=a;a=c;}return a&&b;}fun g(){return f(1,2);}"};

    /** Each of these texts behind each other one, on one tape. */
    private static void oneBehindTheOther() {
        check.says("Reads the tape as a program, and empties it.");
        for (String first : PAIRS) {
            Gearbox box = new Gearbox();
            for (String second : PAIRS) {
                loadPair(box, first);
                loadPair(box, second);
                if (second.startsWith("0")) {
                    Gearbox fresh = Tape.with(second.substring(1));
                    check.same("digest behind " + first + " of " + second, box.digest(), fresh.digest());
                }
            }
        }
    }

    private static void loadPair(Gearbox box, String marked) {
        String text = marked.substring(1).replace("ATOO", "if a{}".repeat(20));
        check.same("load of " + marked, Tape.load(box, text.replace("@", "")), marked.charAt(0) - '0');
        check.same("errorAt of " + marked, box.errorAt(), text.indexOf('@'));
    }

    private static void errorPlaces() {
        check.says("Returns the place of the latest error of load(); -1 if the latest one had none, or there was none.");
        Gearbox box = new Gearbox();
        check.same("errorAt ahead of all", box.errorAt(), -1);
        Tape.put(box, "x");
        check.same("errorAt ahead of load", box.errorAt(), -1);
        box.load();
        check.same("errorAt of an error at 0", box.errorAt(), 0);
        Tape.load(box, "fun f(){a=1;}");
        check.same("errorAt of another one", box.errorAt(), 8);
        feedBlanks(box);
        box.trim(0);
        box.restore();
        box.settle();
        check.same("errorAt behind other calls", box.errorAt(), 8);
        Tape.load(box, "fun f(){}");
        check.same("errorAt behind none", box.errorAt(), -1);
        box.load();
        check.same("errorAt of an empty tape", box.errorAt(), 0);
        check.says("Positions of the tape are counted from 0, in bytes.");
        wrong(1, "@\u00e4\u00f6\u00fc");
        wrong(1, "fun f(){}@\u00e4\u00f6\u00fc");
    }

    private static void restoring() {
        check.says("Makes the blocks of all functions anew, as load() did; there is no code then.");
        String text = "fun f(a){while a{a=a-(1+0);}return 2+3;}fun g(){if 1{return 4;}}fun h(){}";
        Gearbox box = Tape.with(text);
        String fresh = Dump.all(box);
        check.same("restore of what is as it was", box.restore(), 4 + 3 + 1);
        check.same("all is as it was", Dump.all(box), fresh);
        box.settle();
        box.allocate(4);
        check.same("restore", box.restore(), 4 + 3 + 1);
        check.same("all is as behind load", Dump.all(box), fresh);
        check.refuses("run of code", box, IllegalStateException.class, () -> box.run(2, 0, 0, 0, 0, 0));
        // A run that was is still the latest one.
        box.allocate(4);
        box.run(2, 0, 2, 0, 0, 0);
        int steps = box.stepsRun();
        box.restore();
        check.same("outcome behind restore", box.outcome(), 0);
        check.same("result behind restore", box.result(), 5);
        check.same("steps behind restore", box.stepsRun(), steps);
        check.says("Returns how many blocks all functions have together.");
        check.same("restore without a program", new Gearbox().restore(), 0);
        check.same("restore of one block", Tape.with("fun f(){}").restore(), 1);
        String six = "if 1{return 1;}}";
        check.same("restore of six functions",
            Tape.with("fun a(){" + six + "fun b(){" + six + "fun c(){" + six + "fun d(){" + six + "fun e(){" + six
                + "fun f(){" + six).restore(), 18);
        String most = "(a){" + "if a{}".repeat(19) + "if a{return 1;}}";
        check.same("restore of 60 blocks each",
            Tape.with("fun f" + most + "fun g" + most + "fun h" + most + "fun i" + most).restore(), 240);
    }

    // ---- tokens

    private static void gaps() {
        check.says("blanks (32) and line ends (10) may stand ahead of them, between them and behind them:");
        right(SAMPLE);
        right(SAMPLE.replace(" ", "\n"));
        right(SAMPLE.replace(" ", "  \n\n \n"));
        right(" \n" + SAMPLE + "\n ");
        right(SAMPLE.replaceAll(" (?![a-z0-9])", "").replaceAll("(?<![a-z0-9]) ", ""));
        for (char other : new char[] {0, 9, 11, 12, 13, 31, 33, 127, 128, 160}) {
            String gap = String.valueOf(other);
            wrongAt(1, 0, gap + "fun f(){}");
            wrongAt(1, 3, "fun" + gap + "f(){}");
            wrongAt(1, 8, "fun f(){" + gap + "}");
            wrongAt(1, 9, "fun f(){}" + gap);
            wrongAt(1, 11, "fun f(){} \n" + gap);
        }
        wrong(1, "fun@");
        wrong(1, "fun \n @");
        wrong(1, " \n \n@");
    }

    /** What a test of a and b gives, as its text does. */
    private static void gives(String test, int a, int b, int due) {
        Gearbox box = right("fun f(a,b){return " + test + ";}");
        check.same("run of " + test, box.run(0, 0, a, b, 0, 0), 0);
        check.same("result of " + test, box.result(), due);
    }

    private static void longestTokens() {
        check.says("Tokens, each read as far as possible;");
        gives("a<<b", 3, 2, 12);
        wrong(1, "fun f(a,b){return a< @<b;}");
        gives("a>>b", 12, 2, 3);
        wrong(1, "fun f(a,b){return a> @>b;}");
        gives("a<=b", 2, 2, 1);
        wrong(1, "fun f(a,b){return a< @=b;}");
        gives("a>=b", 2, 2, 1);
        wrong(1, "fun f(a,b){return a> @=b;}");
        gives("a==b", 2, 2, 1);
        wrong(1, "fun f(a,b){return a @= =b;}");
        gives("a!=b", 2, 2, 0);
        wrong(1, "fun f(a,b){return a @! =b;}");
        gives("a&&b", 2, 1, 1);
        wrong(1, "fun f(a,b){return a& @&b;}");
        gives("a||b", 2, 1, 1);
        wrong(1, "fun f(a,b){return a| @|b;}");
        // No sign has three bytes, and of these the first two go together.
        wrong(1, "fun f(a,b){return a<<@<b;}");
        wrong(1, "fun f(a,b){return a<<@=b;}");
        wrong(1, "fun f(a,b){return a>>@>b;}");
        wrong(1, "fun f(a,b){return a>>@=b;}");
        wrong(1, "fun f(a,b){return a<=@=b;}");
        wrong(1, "fun f(a,b){return a==@=b;}");
        wrong(1, "fun f(a,b){return a!=@=b;}");
        wrong(1, "fun f(a,b){return a&&@&b;}");
        wrong(1, "fun f(a,b){return a||@|b;}");
        wrong(1, "fun f(a,b){return a@=<b;}");
        wrong(1, "fun f(a,b){return a@=>b;}");
        // Those that make no sign of two bytes stay two signs.
        gives("a--b", 5, 3, 8);
        gives("a+-b", 5, 3, 2);
        gives("a<-b", 5, 3, 0);
        gives("a>!b", 5, 3, 1);
        gives("a&-b", 5, 1, 5);
        gives("a*!b", 5, 0, 5);
        wrong(1, "fun f(a,b){return a+@+b;}");
        wrong(1, "fun f(a,b){return a*@*b;}");
        wrong(1, "fun f(a,b){return a@!b;}");
        // A word goes on over digits and letters, a number over digits alone.
        wrong(1, "@funf(){}");
        wrong(1, "fun f(a){return @;}");
        wrong(1, "fun f(a){returna@;}");
        wrong(1, "fun f(a){return 1@a;}");
        wrong(1, "fun f(a){return 1@if;}");
        right("fun f(if1){if1=1;}");
        right("fun f(a1,a12){return a1+a12;}");
        wrong(1, "fun f(a){return 1 @2;}");
        wrong(1, "fun f(a){return a @a;}");
        // At the end of the tape a sign ends, too.
        for (String sign : new String[] {"<", ">", "=", "!", "&", "|"}) {
            wrong(1, "fun f(a){}@" + sign);
        }
        wrong(1, "fun f(a){return a<@");
        wrong(1, "fun f(a){return a&@");
    }

    private static void words() {
        check.says("a word: a letter a to z, then letters a to z and digits, at most 8 bytes;");
        for (String name : new String[] {"a", "z", "a0", "z9", "az09", "abcdefg", "abcdefgh", "zzzzzzzz", "a1234567",
            "z9999999"}) {
            right("fun " + name + "(){" + name + "();}");
            right("fun f(" + name + "){return " + name + ";}");
            right("fun f(){var " + name + "=1;[" + name + "]=" + name + ";}");
        }
        for (String name : new String[] {"abcdefghi", "a12345678", "continuea", "zzzzzzzzz", "a".repeat(1000)}) {
            wrong(1, "fun @" + name + "(){}");
            wrong(1, "fun f(@" + name + "){}");
            wrong(1, "fun f(){var @" + name + "=1;}");
            wrong(1, "fun f(){return @" + name + ";}");
            wrong(1, "fun f(){@" + name + "();}");
        }
        // Two words that differ in their last byte alone are two.
        wrong(3, "fun f(abcdefgh){return @abcdefgi;}");
        wrong(3, "fun f(abcdefgh){return @abcdefg;}");
        right("fun abcdefgh(){}fun abcdefgi(){}fun abcdefg(){}");
        wrong(1, "fun @0a(){}");
        wrong(1, "fun @9(){}");
        wrong(1, "fun @A(){}");
        wrong(1, "fun @Z(){}");
        wrong(1, "fun a@A(){}");
        wrong(1, "fun a@_(){}");
        wrong(1, "fun a@`(){}");
        wrong(1, "fun a@{(){}");
        wrong(1, "fun a@/(){}");
        wrong(1, "fun a@:(){}");
        wrong(1, "fun @`(){}");
        wrong(1, "fun @{(){}");
    }

    private static void numbers() {
        check.says("a number: digits, at most 9;");
        gives("0", 0, 0, 0);
        gives("9", 0, 0, 9);
        gives("123456789", 0, 0, 123456789);
        gives("987654320", 0, 0, 987654320);
        gives("999999999", 0, 0, 999999999);
        gives("000000007", 0, 0, 7);
        gives("00", 0, 0, 0);
        wrong(1, "fun f(){return @1234567890;}");
        wrong(1, "fun f(){return @0000000000;}");
        wrong(1, "fun f(){return @0000000007;}");
        wrong(1, "fun f(){return @" + "9".repeat(1000) + ";}");
        // 2 to the power of 32, and 64 of these: they are no small numbers.
        wrong(1, "fun f(){return @4294967296;}");
        wrong(1, "fun f(){return @18446744073709551616;}");
        wrong(1, "fun f(){return 12345678/@;}");
        wrong(1, "fun f(){return 12345678@:;}");
        wrong(1, "fun f(){return 1@.5;}");
    }

    private static void signs() {
        check.says("a sign: one of ( ) { } [ ] , ; = + - * / % & | ^ ! < > << >> <= >= == != && ||.");
        String[] operators = {"+", "-", "*", "/", "%", "&", "|", "^", "<<", ">>", "<", "<=", ">", ">=", "==", "!="};
        for (int n = 0; n < operators.length; n++) {
            Gearbox box = right("fun f(a,b){return a" + operators[n] + "b;}");
            check.same("kind of " + operators[n], box.kindOf(0, 0, 2), n + 1);
            check.same("steps of " + operators[n], box.steps(0, 0), 3);
        }
        check.same("blocks of &&", right("fun f(a,b){return a&&b;}").blocks(0), 4);
        check.same("blocks of ||", right("fun f(a,b){return a||b;}").blocks(0), 4);
        right(SAMPLE);
    }

    private static void otherBytes() {
        check.says("Any other byte, a longer word and a longer number are a wrong token, which begins at its first byte.");
        String operators = "+-*/%&|^<>";
        for (int n = 0; n < 256; n++) {
            char c = (char) n;
            String ahead = "fun f(a){return a";
            String text = ahead + c + " a;}";
            int place = ahead.length();
            if (operators.indexOf(c) >= 0) {
                right(text);
            } else if (c == 32 || c == 10 || c >= 'a' && c <= 'z' || c >= '0' && c <= '9') {
                // A longer name, or none: then the second a cannot stand there.
                wrongAt(1, place + 2, text);
            } else if (c == '(' || c == ';') {
                // A call, or the end of the statement: then the ; cannot.
                wrongAt(1, place + 3, text);
            } else {
                wrongAt(1, place, text);
            }
        }
        wrong(1, "fun f(a){return a+@abcdefghi;}");
        wrong(1, "fun f(a){return a+@1234567890;}");
        wrong(1, "fun f(a){return a+ @#;}");
    }

    private static void manyTokens() {
        check.says("At most 600 tokens; if there are more, the 601st is a wrong token.");
        // Seven tokens round 147 statements of four and one of five: 600 in all; or one of four, for 599.
        String most = "fun f(a){" + "a=a;".repeat(147);
        right(most + "a=a;}");
        right(most + "a=-a;}");
        right(most + "a=-a;}" + "\n ".repeat(280));
        wrong(1, most + "a=a+a;@}");
        wrong(1, most + "a=(a);@}");
        wrong(1, most + "a=-a;}@fun g(){}");
        wrong(1, most + "a=-a;} @1");
        wrong(1, most + "a=-a;} @#");
        wrong(1, most + "a=-a;} @abcdefghi");
        wrong(1, most + "a=-a;} @}");
        wrong(1, most + "a=a;}fun @g(){}");
        // That what is told comes later does not help.
        wrong(1, most + "a=a;a=@a;}");
        wrong(1, "fun f(a){" + "a=a;".repeat(148) + "a=@a;" + "a=a;".repeat(20) + "}");
        // What is wrong ahead of it is told, and no other error.
        wrong(1, "fun f(a){a=@;" + "a=a;".repeat(160) + "}");
        wrong(1, "fun f(a){b=1;break;" + "a=a;".repeat(147) + "@}");
        // 600 tokens, or less, that are no whole program.
        wrong(1, most + "a=-a;@");
        wrong(1, most + "a=a+a;@");
    }

    private static void keywords() {
        check.says("Keywords: break continue else fun if return var while. All other words are names (NAME).");
        for (String word : KEYWORDS) {
            wrong(1, "fun @" + word + "(){}");
            wrong(1, "fun f(@" + word + "){}");
            wrong(1, "fun f(){var @" + word + "=1;}");
            wrong(1, "fun f(){return @" + word + ";}");
            wrong(1, "fun f(){[1]=@" + word + "();}");
            String shorter = word.substring(0, word.length() - 1);
            right("fun " + shorter + "(" + shorter + "){return " + shorter + ";}");
            right("fun f(){var " + shorter + "=1;}");
            if (word.length() < 8) {
                right("fun " + word + "a(" + word + "0){return " + word + "0;}");
                right("fun f(){var a" + word + "=1;" + "a" + word + "=2;}");
            }
        }
        right("fun for(do,int,then){}");
    }

    private static void repeats() {
        check.says("{ x } is x as often as one likes, also not at all; [ x ] is x or nothing;");
        check.says("program = function { function }");
        wrong(1, "@");
        check.same("one function", right("fun f(){}").functions(), 1);
        check.same("two functions", right("fun f(){}fun g(){}").functions(), 2);
        check.says("function = fun NAME \"(\" [ NAME { \",\" NAME } ] \")\" block");
        right("fun f(){}");
        right("fun f(a){}");
        right("fun f(a,b){}");
        wrong(1, "fun f(@,){}");
        wrong(1, "fun f(a,@){}");
        wrong(1, "fun f(a @b){}");
        wrong(1, "fun f(){} @{}");
        check.says("block = \"{\" { statement } \"}\"");
        right("fun f(){}");
        right("fun f(){f();}");
        right("fun f(){f();f();}");
        wrong(1, "fun f(){@;}");
        wrong(1, "fun f(){f();@;}");
        wrong(1, "fun f(){@{}}");
        check.says("NAME \"(\" [ test { \",\" test } ] \")\" \";\" | if test block [ else block ] | while test block");
        wrong(1, "fun f(){f(@,);}");
        wrong(1, "fun f(){f(1,@);}");
        wrong(1, "fun f(){f(1 @1);}");
        wrong(1, "fun f(){f()@}");
        right("fun f(){if 1{}}");
        right("fun f(){if 1{}else{}}");
        wrong(1, "fun f(){if 1{}else{}@else{}}");
        wrong(1, "fun f(){if 1{}else @if 1{}}");
        wrong(1, "fun f(){while 1{}@else{}}");
        wrong(1, "fun f(){if @{}}");
        check.says("compared = sum [ ( \"<\" | \"<=\" | \">\" | \">=\" | \"==\" | \"!=\" ) sum ]");
        for (String sign : new String[] {"<", "<=", ">", ">=", "==", "!="}) {
            right("fun f(){return 1;}");
            right("fun f(){return 1" + sign + "2;}");
            right("fun f(){return (1" + sign + "2)" + sign + "3;}");
            right("fun f(){return 1" + sign + "2&&3" + sign + "4||5" + sign + "6;}");
            wrong(1, "fun f(){return 1" + sign + "2@" + sign + "3;}");
            wrong(1, "fun f(){return 1" + sign + "2@==3;}");
        }
        check.says("signed = [ \"-\" | \"!\" ] single");
        right("fun f(){return 1- -1;}");
        right("fun f(){return -(-1);}");
        right("fun f(){return !(!1);}");
        wrong(1, "fun f(){return -@-1;}");
        wrong(1, "fun f(){return !@!1;}");
        wrong(1, "fun f(){return -@!1;}");
        wrong(1, "fun f(){return !@-1;}");
        wrong(1, "fun f(){return @+1;}");
    }

    private static void rows() {
        check.says("Operators of one row of these are taken from the left.");
        gives("a-b-1", 10, 3, 6);
        gives("a-(b-1)", 10, 3, 8);
        gives("a/b/2", 100, 5, 10);
        gives("a%b*3", 17, 5, 6);
        gives("a*b%7", 5, 3, 1);
        gives("a/b*2", 9, 2, 8);
        gives("a<<b<<1", 1, 2, 8);
        gives("a<<b>>1", 1, 2, 2);
        gives("a>>b&1", 6, 1, 1);
        gives("a&b<<1", 6, 3, 4);
        gives("a<<1&b", 3, 2, 2);
        gives("a-b|8", 9, 8, 9);
        gives("a|b-1", 4, 1, 4);
        gives("a^b+1", 4, 1, 6);
        gives("a+1^b", 4, 4, 1);
        gives("a|b^1", 2, 1, 2);
        gives("a^b|1", 3, 3, 1);
        // A row further down binds more.
        gives("a+b*2", 10, 3, 16);
        gives("a|b&1", 4, 3, 5);
        gives("a-b<<1", 10, 3, 4);
        gives("a+1<b+2", 3, 3, 1);
        gives("a<b&&b<a", 1, 2, 0);
        gives("a||b&&0", 1, 0, 1);
        gives("a&&0||b", 1, 1, 1);
        gives("-a+b", 3, 5, 2);
        gives("-a*b", 3, 5, -15);
        gives("!a==b", 0, 1, 1);
    }

    // ---- bounds

    private static final String BOUNDS =
        "Bounds: 6 functions, 4 parameters of a function and 4 arguments of a call; at most 8 of ( [ { may be open at once.";
    private static final String TOO_MANY = "What is one too many is a token that cannot stand there: that with which it "
        + "would begin (of a function its fun), never the comma or the word ahead of it.";

    private static void functions() {
        check.says(BOUNDS);
        StringBuilder text = new StringBuilder();
        for (int n = 1; n <= 6; n++) {
            text.append("fun f").append(n).append("(){}");
            check.same("functions", right(text.toString()).functions(), n);
        }
        check.says(TOO_MANY);
        wrong(1, text + "@fun f7(){}");
        wrong(1, text + " \n@fun");
        wrong(1, text + "@x");
        wrong(1, text + "@fun f7(){}fun f8(){}");
        // The seventh is too many though none of them has another error, or one has.
        wrong(1, "fun a(){b=1;}fun a(){}fun a(){}fun a(){}fun a(){}fun a(){}@fun a(){}");
    }

    private static void parameters() {
        check.says(BOUNDS);
        String[] names = {"", "a", "a,b", "a,b,c", "a,b,c,d"};
        for (int n = 0; n <= 4; n++) {
            check.same("parameters", right("fun f(" + names[n] + "){}").parametersOf(0), n);
            check.same("parameters", right("fun f(){}fun g(" + names[n] + "){}").parametersOf(1), n);
        }
        check.says(TOO_MANY);
        wrong(1, "fun f(a,b,c,d,@e){}");
        wrong(1, "fun f(a,b,c,d, \n @e){}");
        wrong(1, "fun f(a,b,c,d,@a){}");
        wrong(1, "fun f(a,b,c,d,@e,f){}");
        wrong(1, "fun f(a,b,c,d,@");
        wrong(1, "fun f(a,b,c,d,@,e){}");
        wrong(1, "fun f(a,b,c,d@;e){}");
    }

    private static void arguments() {
        check.says(BOUNDS);
        String[] parameters = {"", "a", "a,b", "a,b,c", "a,b,c,d"};
        String[] told = {"", "1", "1,2", "1,2,3", "1,2,3,4"};
        for (int n = 0; n <= 4; n++) {
            right("fun f(" + parameters[n] + "){f(" + told[n] + ");}");
            right("fun f(" + parameters[n] + "){return f(" + told[n] + ");}");
        }
        check.says(TOO_MANY);
        for (String fifth : new String[] {"5", "a", "(5)", "[5]", "-5", "!5", "f(1)", "", ")", ";", "#"}) {
            wrong(1, "fun f(a,b,c,d){f(1,2,3,4,@" + fifth + ");}");
            wrong(1, "fun f(a,b,c,d){return 1+f(1,2,3,4, @" + fifth + ");}");
        }
        wrong(1, "fun f(a,b,c,d){f(1,2,3,4,@");
        // Each call has its own.
        right("fun f(a,b,c,d){f(f(1,2,3,4),f(1,2,3,4),f(1,2,3,4),f(1,2,3,4));}");
        wrong(1, "fun f(a,b,c,d){f(1,f(1,2,3,4),3,4,@f(1,2,3,4));}");
        wrong(1, "fun f(a,b,c,d){f(1,f(1,2,3,4,@5),3,4);}");
    }

    private static void openBrackets() {
        check.says(BOUNDS);
        // The bracket of the function's block is one, so seven more may be open.
        String[] ahead = {"a=(", "a=f(", "a=[", "if a{", "if a{}else{", "while a{"};
        for (String first : ahead) {
            for (String second : ahead) {
                boolean isTest = first.startsWith("a=");
                if (isTest && !second.startsWith("a=")) {
                    continue;
                }
                nest(first, second, 7);
                nest(first, second, 8);
            }
        }
        String six = "while a{".repeat(6);
        right("fun f(a){" + six + "f(a);[a]=[a];" + "}".repeat(6) + "}");
        right("fun f(a){" + six + "while a{}" + "}".repeat(6) + "}");
        check.says(TOO_MANY);
        String seven = "while a{".repeat(7);
        wrong(1, "fun f(a){" + seven + "f@(a);" + "}".repeat(7) + "}");
        wrong(1, "fun f(a){" + seven + "@[a]=a;" + "}".repeat(7) + "}");
        wrong(1, "fun f(a){" + seven + "a=@(a);" + "}".repeat(7) + "}");
        wrong(1, "fun f(a){" + seven + "a=f@();" + "}".repeat(7) + "}");
        wrong(1, "fun f(a){" + seven + "a=@[a];" + "}".repeat(7) + "}");
        wrong(1, "fun f(a){" + seven + "if a@{}" + "}".repeat(7) + "}");
        wrong(1, "fun f(a){" + seven + "while a @{}" + "}".repeat(7) + "}");
        right("fun f(a){" + seven + "a=a;" + "}".repeat(7) + "}");
        // What is closed is not open: many brackets, but few at once.
        right("fun f(a){" + "a=(a);".repeat(40) + "}");
        right("fun f(a){" + "[a]=[a];".repeat(40) + "}");
        right("fun f(a){" + "if a{}else{}".repeat(4) + "f(a);".repeat(40) + "}");
        right("fun f(a){" + seven + "}".repeat(7) + seven + "}".repeat(7) + "}");
        right("fun f(a){" + seven + "}".repeat(8) + "fun g(a){" + seven + "}".repeat(8));
    }

    /** So many brackets in each other behind that of the function: the outer ones of one kind, the last one of another. */
    private static void nest(String first, String second, int count) {
        StringBuilder text = new StringBuilder("fun f(a){");
        StringBuilder closing = new StringBuilder();
        for (int n = 0; n < count; n++) {
            String own = n == count - 1 ? second : first;
            boolean isInside = n > 0 && first.startsWith("a=");
            text.append(isInside ? own.substring(2) : own);
            char open = own.charAt(own.length() - 1);
            closing.insert(0, open == '(' ? ")" : open == '[' ? "]" : "}");
            if (own.startsWith("a=") && !isInside) {
                closing.insert(closing.length() > 1 || n == 0 ? 1 : 0, ";");
            }
        }
        int last = text.length() - 1;
        if (second.endsWith("{}else{")) {
            last -= "}else{".length();
        }
        boolean isTest = second.startsWith("a=");
        text.append(isTest ? "a" : "").append(closing).append('}');
        if (count <= 7) {
            right(text.toString());
        } else {
            wrongAt(1, last, text.toString());
        }
    }

    // ---- heights

    /** A sum of this height. */
    private static String tall(int height) {
        return "a" + "+a".repeat(height - 1);
    }

    private static void heights() {
        check.says("A number and a name have the height 1; anything made by an operator, a call, or [ ] has 1 and the "
            + "greatest height of the tests in it, a call without any 1;");
        check.says("error 2: something has a height of more than 10; its place is that of its operator, of the name of "
            + "the call, or of its [ ;");
        for (String one : new String[] {"1", "a", "g()"}) {
            right("fun f(a){return " + one + "+1".repeat(9) + ";}fun g(){}");
            wrong(2, "fun f(a){return " + one + "+1".repeat(9) + "@+1;}fun g(){}");
        }
        String[] operators = {"+", "-", "*", "/", "%", "&", "|", "^", "<<", ">>", "<", "<=", ">", ">=", "==", "!=", "&&",
            "||"};
        for (String operator : operators) {
            right("fun f(a){return (" + tall(9) + ")" + operator + "a;}");
            wrong(2, "fun f(a){return (" + tall(10) + ")@" + operator + "a;}");
            right("fun f(a){return a" + operator + "(" + tall(9) + ");}");
            wrong(2, "fun f(a){return a@" + operator + "(" + tall(10) + ");}");
            right("fun f(a){return (" + tall(9) + ")" + operator + "(" + tall(9) + ");}");
        }
        for (String operator : new String[] {"-", "!"}) {
            right("fun f(a){return " + operator + "(" + tall(9) + ");}");
            wrong(2, "fun f(a){return @" + operator + "(" + tall(10) + ");}");
        }
        right("fun f(a){return [" + tall(9) + "];}");
        wrong(2, "fun f(a){return @[" + tall(10) + "];}");
        right("fun f(a){return f(" + tall(9) + ");}");
        wrong(2, "fun f(a){return @f(" + tall(10) + ");}");
        right("fun f(a){f(" + tall(9) + ");}");
        wrong(2, "fun f(a){@f(" + tall(10) + ");}");
        // The greatest height of the tests in it, wherever it stands.
        right("fun f(a,b,c,d){return f(1," + tall(9) + ",2,3);}");
        wrong(2, "fun f(a,b,c,d){return @f(1," + tall(10) + ",2,3);}");
        wrong(2, "fun f(a,b,c,d){return @f(1,2,3," + tall(10) + ");}");
        right("fun f(a){return " + tall(5) + "+(" + tall(9) + ");}");
        wrong(2, "fun f(a){return " + tall(5) + "@+(" + tall(10) + ");}");
        // In each test of the text.
        wrong(2, "fun f(a){var b=" + tall(10) + "@+a;}");
        wrong(2, "fun f(a){a=" + tall(10) + "@+a;}");
        wrong(2, "fun f(a){[a]=" + tall(10) + "@+a;}");
        wrong(2, "fun f(a){[" + tall(10) + "@+a]=a;}");
        wrong(2, "fun f(a){if " + tall(10) + "@+a{}}");
        wrong(2, "fun f(a){while " + tall(10) + "@+a{}}");
        check.says("round brackets alone do not count, nor does the [ ] on the left of a =.");
        right("fun f(a){return (" + tall(10) + ");}");
        right("fun f(a){return (((((((" + tall(10) + ")))))));}");
        wrong(2, "fun f(a){return (((((((" + tall(10) + "@+a)))))));}");
        right("fun f(a){[" + tall(10) + "]=a;}");
        right("fun f(a){[(" + tall(10) + ")]=a;}");
        wrong(2, "fun f(a){[@[" + tall(10) + "]]=a;}");
        right("fun f(a){[[" + tall(9) + "]]=a;}");
    }

    private static void heightPlaces() {
        check.says("of several the first place of the text.");
        wrong(2, "fun f(a){return " + tall(10) + "@+a+a+a+a;}");
        wrong(2, "fun f(a){a=" + tall(10) + "@+a;a=" + tall(10) + "+a;}");
        wrong(2, "fun f(a){a=a;}fun g(a){a=" + tall(10) + "@+a;}fun h(a){a=" + tall(10) + "+a;}");
        // What stands ahead of what is too high in it has the first place, though it ends later.
        wrong(2, "fun f(a){return @-(" + tall(10) + "+a);}");
        wrong(2, "fun f(a){return @![" + tall(10) + "];}");
        wrong(2, "fun f(a){return a@*[" + tall(10) + "];}");
        wrong(2, "fun f(a){return @f(f(" + tall(10) + "));}");
        wrong(2, "fun f(a){return @[[" + tall(10) + "]];}");
        // What stands behind it has not.
        wrong(2, "fun f(a){return (" + tall(10) + "@+a)*a;}");
        wrong(2, "fun f(a){return @[" + tall(10) + "]*a;}");
    }

    // ---- errors

    private static void firstError() {
        check.says("The first error is told. Error 1: the text is no such program; its place is that of the first token with "
            + "which the tokens up to it are not the beginning of one, at the end of the tape it is the length of the tape.");
        int from = 0;
        int functions = 0;
        for (String token : SAMPLE.split(" ")) {
            String ahead = SAMPLE.substring(0, from);
            if (!ahead.equals("fun g ( ) { } ")) {
                wrongAt(1, ahead.length(), ahead);
                wrongAt(1, ahead.trim().length(), ahead.trim());
                wrongAt(1, ahead.length() + 2, ahead + "\n ");
            } else {
                functions++;
                right(ahead);
            }
            // In place of each token a wrong one.
            wrongAt(1, from, ahead + "? " + SAMPLE.substring(from));
            wrongAt(1, from, ahead + "12345678901 " + SAMPLE.substring(from));
            from += token.length() + 1;
        }
        check.same("whole programs ahead of the end", functions, 1);
        right(SAMPLE);
        wrongAt(1, SAMPLE.length(), SAMPLE + "}");
        wrongAt(1, 0, "");
        wrongAt(1, 1, " ");
        wrongAt(1, 1, "\n");
        wrongAt(1, 1200, " ".repeat(1200));
        wrongAt(1, 1200, "fun f(){" + " ".repeat(1192));
        wrongAt(1, 1199, " ".repeat(1199) + "x");
    }

    private static void order() {
        // Each error in a statement of its own; the mark is where the error is.
        String[] texts = {"", "", "[0]=1+1+1+1+1+1+1+1+1+1@+1;", "@nobody=1;", "@f(1,2);", "@break;"};
        check.says("Only without it, error 2:");
        check.says("Only without these, what comes first in the text (of two at one place the smaller number) of:");
        for (int one = 2; one <= 5; one++) {
            wrong(one, "fun f(){" + texts[one] + "}");
            wrong(1, "fun f(){" + texts[one].replace("@", "") + "}@}");
            for (int other = 2; other <= 5; other++) {
                String plain = texts[other].replace("@", "");
                if (one == 2 || other != 2) {
                    wrong(one, "fun f(){" + texts[one] + plain + "}");
                    wrong(one, "fun f(){" + texts[one] + "}fun g(){" + plain.replace("f(", "g(") + "}");
                }
                if (one == 2 && other != 2) {
                    wrong(2, "fun f(){" + plain + texts[2] + "}");
                }
            }
        }
        // Errors within one statement, and at names of functions that are told only later.
        wrong(4, "fun f(){@f(nobody);}");
        wrong(3, "fun f(){@nobody(f(1));}");
        wrong(3, "fun f(){@nobody=f(1);}");
        wrong(4, "fun f(){@g(nobody);}fun g(){}");
        wrong(3, "fun f(){[@nobody]=f(1);}");
        wrong(3, "fun f(){}fun @f(){nobody=1;}");
        wrong(3, "fun f(a,@a){break;}");
        wrong(5, "fun f(){@break;}fun f(){}");
        check.says("this one only without all others.");
        String blocks = "fun f(a){" + "if a{}".repeat(20) + "}";
        for (int one = 2; one <= 5; one++) {
            wrong(one, blocks + "fun g(){" + texts[one].replace("f(", "g(") + "}");
            wrong(one, "fun g(){" + texts[one].replace("f(", "g(") + "}" + blocks);
        }
        wrong(1, blocks + "@}");
        wrong(6, blocks.replace("fun f", "fun @f") + "fun g(){}");
    }

    private static void functionNames() {
        check.says("3, at a name: of a function that a function ahead has;");
        right("fun f(){}fun g(){}fun h(){}");
        wrong(3, "fun f(){}fun @f(){}");
        wrong(3, "fun f(){}fun g(){}fun @f(){}");
        wrong(3, "fun f(){}fun g(){}fun @g(){}");
        wrong(3, "fun a(){}fun b(){}fun c(){}fun d(){}fun e(){}fun @a(){}");
        wrong(3, "fun f(){}fun @f(a){}");
        wrong(3, "fun f(){}fun @f(){}fun f(){}");
    }

    private static void parameterNames() {
        check.says("of a parameter that was told ahead;");
        right("fun f(a,b,c,d){}");
        wrong(3, "fun f(a,@a){}");
        wrong(3, "fun f(a,@a,a,a){}");
        wrong(3, "fun f(a,b,@b){}");
        wrong(3, "fun f(a,b,c,@a){}");
        wrong(3, "fun f(a,b,c,@c){}");
        right("fun f(a){}fun g(a){}");
    }

    private static void newVariables() {
        check.says("behind var, of a variable that is seen there;");
        right("fun f(a){var b=1;var c=2;}");
        wrong(3, "fun f(){var a=1;var @a=2;}");
        wrong(3, "fun f(){var a=1;var b=2;var @a=2;}");
        wrong(3, "fun f(a){var @a=1;}");
        wrong(3, "fun f(a,b,c,d){var @d=1;}");
        wrong(3, "fun f(){var a=1;if 1{var @a=2;}}");
        wrong(3, "fun f(){var a=1;if 1{}else{var @a=2;}}");
        wrong(3, "fun f(){var a=1;while 1{var @a=2;}}");
        wrong(3, "fun f(){var a=1;if 1{if 1{if 1{var @a=2;}}}}");
        right("fun f(){if 1{var a=1;}var a=2;}");
        right("fun f(){if 1{var a=1;}if 1{var a=2;}}");
        right("fun f(){if 1{var a=1;}else{var a=2;}}");
        right("fun f(){while 1{var a=1;}while 1{var a=2;}}");
        right("fun f(){var a=1;}fun g(){var a=2;}");
    }

    private static void variables() {
        check.says("elsewhere, of a variable that is not seen there;");
        String[] uses = {"@b=1;", "[@b]=1;", "[1]=@b;", "f(@b);", "return @b;", "if @b{}", "while @b{}", "a=@b;", "a=1+@b;",
            "a=-@b;", "a=!@b;", "a=[@b];", "a=(@b);", "a=f(@b);", "a=a&&@b;", "a=@b||a;", "var c=@b;", "var b=@b;",
            "if a{@b=1;}", "while a{@b=1;}"};
        for (String use : uses) {
            wrong(3, "fun f(a){" + use + "}");
            wrong(3, "fun f(a){if 1{var b=1;}" + use + "}");
            wrong(3, "fun f(a){if 1{var b=1;}else{" + use + "}}");
            wrong(3, "fun f(a){" + use + "if 1{var b=1;}}");
            wrong(3, "fun f(a){return 1;" + use + "}");
            if (!use.startsWith("var b")) {
                right("fun f(a){var b=1;" + use.replace("@", "") + "}");
                right("fun f(a){var b=1;if 1{" + use.replace("@", "") + "}}");
            }
        }
        // The name of a function is no variable.
        wrong(3, "fun f(){return @f;}");
        wrong(3, "fun f(){@f=1;}");
    }

    private static void calledNames() {
        check.says("of a call, if no function of the program is called so.");
        right("fun f(){f();}");
        wrong(3, "fun f(){@g();}");
        wrong(3, "fun f(){return @g();}");
        wrong(3, "fun f(){@g(1,2);}");
        wrong(3, "fun f(a){f(@g());}");
        // A variable is no function.
        wrong(3, "fun f(a){@a();}");
        wrong(3, "fun f(){var b=1;@b();}");
        wrong(3, "fun f(){return 1;@g();}");
    }

    private static void argumentCounts() {
        check.says("4, at the name of a call, if it has not as many arguments as that function (of two of one name the first) "
            + "has parameters.");
        String[] parameters = {"", "a", "a,b", "a,b,c", "a,b,c,d"};
        String[] told = {"", "1", "1,2", "1,2,3", "1,2,3,4"};
        for (int has = 0; has <= 4; has++) {
            for (int gets = 0; gets <= 4; gets++) {
                String before = "fun g(" + parameters[has] + "){}fun f(){";
                if (has == gets) {
                    right(before + "g(" + told[gets] + ");return g(" + told[gets] + ");}");
                } else {
                    wrong(4, before + "@g(" + told[gets] + ");}");
                    wrong(4, before + "return 1+@g(" + told[gets] + ");}");
                    wrong(4, "fun f(){@g(" + told[gets] + ");}fun g(" + parameters[has] + "){}");
                }
            }
        }
        // The second one is error 3 at its own name, and for calls the first one counts.
        wrong(4, "fun f(){@g(1);}fun g(){}fun g(a){}");
        wrong(3, "fun f(){g();}fun g(){}fun @g(a){g();}");
        wrong(3, "fun g(){}fun @g(a){g(1);}");
        // An argument that is a call is one argument, whatever it has itself.
        right("fun f(a){f(g(1,2));}fun g(a,b){}");
        wrong(4, "fun f(a){@f(g(1,2),3);}fun g(a,b){}");
        wrong(4, "fun f(a){f(@g(1));}fun g(a,b){}");
    }

    private static void leaves() {
        check.says("5, at break and continue outside of a while.");
        for (String leave : new String[] {"break;", "continue;"}) {
            right("fun f(){while 1{" + leave + "}}");
            right("fun f(){while 1{if 1{" + leave + "}else{" + leave + "}}}");
            right("fun f(){while 1{while 1{}" + leave + "}}");
            right("fun f(){while 1{while 1{" + leave + "}" + leave + "}}");
            right("fun f(){while 1{" + leave + leave + "}}");
            wrong(5, "fun f(){@" + leave + "}");
            wrong(5, "fun f(){if 1{@" + leave + "}}");
            wrong(5, "fun f(){if 1{}else{@" + leave + "}}");
            wrong(5, "fun f(){while 1{}@" + leave + "}");
            wrong(5, "fun f(){while 1{while 1{}}@" + leave + "while 1{}}");
            wrong(5, "fun f(){while 1{}}fun g(){@" + leave + "}");
            wrong(5, "fun f(){return 1;@" + leave + "}");
        }
    }

    // ---- error 6

    private static final String BLOCKS_OR_VALUES =
        "6, at the name of a function that would have more than 60 blocks or 250 values (section 3);";

    private static void tooManyBlocks() {
        check.says(BLOCKS_OR_VALUES);
        // An if makes two blocks, and a third one is put on the way past it, for the block behind it has two ways.
        for (int n = 0; n <= 19; n++) {
            check.same("blocks of " + n + " ifs", right("fun f(a){" + "if a{}".repeat(n) + "}").blocks(0), 3 * n + 1);
        }
        String nineteen = "if a{}".repeat(19);
        // One that returns makes two, for the block behind it has but one way.
        check.same("59 blocks", right("fun f(a){" + "if a{}".repeat(18) + "if a{return 1;}".repeat(2) + "}").blocks(0), 59);
        check.same("60 blocks", right("fun f(a){" + nineteen + "if a{return 1;}}").blocks(0), 60);
        wrong(6, "fun @f(a){" + nineteen + "if a{}}");
        check.same("60 blocks with an else",
            right("fun f(a){" + "if a{}".repeat(18) + "if a{return 1;}" + "if a{}else{}}").blocks(0), 60);
        wrong(6, "fun @f(a){" + nineteen + "if a{return 1;}else{}}");
        check.same("60 blocks with whiles", right("fun f(a){" + nineteen.substring(12) + "while a{}while a{return 1;}"
            + "if a{return 1;}}").blocks(0), 60);
        wrong(6, "fun @f(a){" + nineteen.substring(12) + "while a{}while a{return 1;}if a{}}");
        // 61 blocks, of which some only come to be as ways are parted: 41 ahead of that.
        wrong(6, "fun @f(a){" + "if a{}".repeat(20) + "}");
        // More than 60 ahead of parting any, and of leaving any out.
        wrong(6, "fun @f(a){" + "if a{return 1;}".repeat(30) + "}");
        check.same("59 blocks", right("fun f(a){" + "if a{return 1;}".repeat(29) + "}").blocks(0), 59);
        // 60 without any that is put on a way, and one more.
        check.same("60 blocks that are made", right("fun f(a){if a{}else{}" + "if a{return 1;}".repeat(28) + "}").blocks(0), 60);
        wrong(6, "fun @f(a){if a{}else{}if a{}else{}" + "if a{return 1;}".repeat(27) + "}");
        check.same("blocks that cannot be reached do not count",
            right("fun f(a){return 1;" + "if a{}".repeat(100) + "}").blocks(0), 1);
        // Of several functions the first one, wherever it stands.
        String twenty = "(a){" + "if a{}".repeat(20) + "}";
        wrong(6, "fun f(){}fun @g" + twenty + "fun h" + twenty);
        wrong(6, "fun f(){}fun g(){}fun h(){}fun i(){}fun j(){}fun @k" + twenty);
    }

    private static void tooManyValues() {
        check.says(BLOCKS_OR_VALUES);
        // A parameter, 12 times 19 values, so many numbers, and the 0 at the end.
        String most = "fun f(a){" + ("a=1" + "+1".repeat(9) + ";").repeat(12);
        check.same("249 values", right(most + "a=1;".repeat(19) + "}").values(0), 249);
        check.same("250 values", right(most + "a=1;".repeat(20) + "}").values(0), 250);
        wrong(6, most.replace(" f", " @f") + "a=1;".repeat(21) + "}");
        wrong(6, most.replace(" f", " @f") + "a=1;".repeat(40) + "}");
        // Phis are values; what steps 18 and 19 do is none.
        check.same("250 values with a phi", right(most + "a=1;".repeat(17) + "if a{a=2;}[a]=0;}").values(0), 250);
        wrong(6, most.replace(" f", " @f") + "a=1;".repeat(18) + "if a{a=2;}[a]=0;}");
        check.same("250 values with an assignment of a word", right(most + "a=1;".repeat(18) + "[1]=1;}").values(0), 250);
        check.same("250 values with a call", right(most + "a=1;".repeat(18) + "f(1);}").values(0), 250);
        wrong(6, most.replace(" f", " @f") + "a=1;".repeat(19) + "f(1);}");
        // What cannot be reached gives none.
        check.same("values behind a return", right("fun f(a){return a;" + ("a=1" + "+1".repeat(9) + ";").repeat(14) + "}")
            .values(0), 1);
        // Calls without arguments: two tokens more than values, 600 in all.
        check.same("values of 145 calls", right("fun f(){" + "f();".repeat(145) + "}").values(0), 146);
        wrong(6, "fun g(){}" + most.replace(" f", " @f") + "a=1;".repeat(21) + "}");
        // Almost all are phis: of 20 variables that change in the innermost of seven loops, 12 for each, and one more.
        check.same("245 values, 241 of them phis", right(shifted(20, 0)).values(0), 245);
        check.same("250 values", right(shifted(20, 5)).values(0), 250);
        wrong(6, shifted(20, 6).replace(" f", " @f"));
        wrong(6, shifted(21, 0).replace(" f", " @f"));
    }

    /** So many variables that get each other's values in seven loops, and so many numbers ahead. */
    private static String shifted(int variables, int numbers) {
        StringBuilder text = new StringBuilder("fun f(a,b,c,d){" + "a=1;".repeat(numbers));
        for (int n = 4; n < variables; n++) {
            text.append("var ").append((char) ('a' + n)).append("=a;");
        }
        text.append("while b{".repeat(7));
        for (int n = 0; n < variables; n++) {
            text.append((char) ('a' + n)).append('=').append((char) ('a' + (n + 1) % variables)).append(';');
        }
        return text + "}if c{break;}".repeat(6) + "}return a;}";
    }

    private static void aheadOfPasses() {
        check.says("(The numbers for error 6: those here, before anything else is done.)");
        // What fold, same and merge would leave out counts.
        wrong(6, "fun @f(a){" + "if 0{}".repeat(20) + "}");
        wrong(6, "fun @f(a){" + "while 0{}".repeat(30) + "}");
        wrong(6, "fun @f(a){" + ("a=1" + "+1".repeat(9) + ";").repeat(13) + "a=1;a=1;}");
        wrong(6, "fun @f(a){" + ("[a]=0" + "+0".repeat(9) + ";").repeat(14) + "}");
        check.same("blocks as they are made", right("fun f(a){" + "if 0{}".repeat(19) + "}").blocks(0), 58);
        check.same("values as they are made", right("fun f(a){" + "a=0+0;".repeat(80) + "}").values(0), 242);
    }

    // ---- names

    private static void scopes() {
        check.says("A parameter is seen in its whole function, a variable behind its var statement to the end of the block in "
            + "which that stands.");
        right("fun f(a){a=1;if a{a=2;while a{a=3;}}return a;}");
        wrong(3, "fun f(a){}fun g(){return @a;}");
        wrong(3, "fun g(){return @a;}fun f(a){}");
        wrong(3, "fun f(){var a=@a;}");
        wrong(3, "fun f(){var a=1+[@a];}");
        right("fun f(){var a=1;a=a;}");
        right("fun f(){var a=1;if a{a=2;}while a{a=3;}}");
        wrong(3, "fun f(){if 1{var a=1;a=2;}@a=3;}");
        wrong(3, "fun f(){while @a{var a=1;}}");
        wrong(3, "fun f(){while 1{var a=1;}return @a;}");
        wrong(3, "fun f(){if 1{var a=1;}else{@a=1;}}");
        wrong(3, "fun f(){if 1{if 1{var a=1;}@a=2;}}");
        right("fun f(){if 1{var a=1;if 1{if 1{a=2;}}a=3;}}");
        right("fun f(){var a=1;if 1{var b=1;}a=2;}");
        check.says("Functions are seen everywhere.");
        right("fun f(){f();g();h();}fun g(){f();g();h();}fun h(){f();g();h();}");
    }

    private static void sameNames() {
        check.says("Functions, parameters and variables may have the same name, but a parameter and a variable of its function "
            + "(a variable is not seen any more behind its block).");
        right("fun f(f){return f(f);}");
        right("fun f(){var f=f();return f;}");
        right("fun f(g){return g(g);}fun g(f){return f(f);}");
        right("fun f(a){}fun g(){var a=1;}fun a(b){}");
        wrong(3, "fun f(a){if a{var @a=1;}}");
        right("fun f(){if 1{var a=1;}if 1{var a=2;}while 1{var a=3;}var a=4;}");
        // Two variables of one name are two: the second one is not what the first one was.
        Gearbox box = right("fun f(c){var s=0;while c{if c%2{var a=c;s=s*10+a;}else{var a=1;s=s*10+a;}var a=9;s=s+a-9;c=c-1;}"
            + "return s;}");
        box.run(0, 0, 4, 0, 0, 0);
        check.same("result", box.result(), 1311);
        check.same("run of blocks", box.run(1, 0, 4, 0, 0, 0), 0);
        check.same("result of blocks", box.result(), 1311);
    }
}
