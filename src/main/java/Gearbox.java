import java.util.Arrays;

/** An optimising compiler, and the machine for its code. */
public final class Gearbox {

    private static final int MOST_BYTES = 1200;
    private static final int MOST_TOKENS = 600;
    private static final int MOST_FUNCTIONS = 6;
    private static final int MOST_PARAMETERS = 4;
    private static final int MOST_OPEN = 8;
    private static final int MOST_HEIGHT = 10;
    private static final int MOST_BLOCKS = 60;
    private static final int MOST_VALUES = 250;
    private static final int MOST_ROUNDS = 16;
    private static final int MOST_STEPS = 5000;
    private static final int MOST_CALLS = 8;
    private static final int LEAST_REGISTERS = 3;
    private static final int MOST_REGISTERS = 8;
    private static final int WORDS = 16;
    private static final int WAYS = 3;

    // 600 tokens make at most 5 text steps each, half a label, half a variable and one piece of a function.
    private static final int MOST_OPS = 3200;
    private static final int MOST_LABELS = 640;
    private static final int MOST_VARIABLES = 320;
    private static final int MOST_PIECES = 640;
    // 8 calls in each other, of tests of height 10 with 4 arguments each, leave fewer operands waiting.
    private static final int MOST_OPERANDS = 512;
    // More than any loop without a bound of its own can need.
    private static final int MANY = 1000000;

    private static final int NONE = -1;

    // Kinds of steps, ends and lines, as the document numbers them.
    private static final int NUMBER = 0;
    private static final int PLUS = 1;
    private static final int MINUS = 2;
    private static final int TIMES = 3;
    private static final int DIVIDE = 4;
    private static final int REST = 5;
    private static final int AND = 6;
    private static final int OR = 7;
    private static final int XOR = 8;
    private static final int SHIFT_LEFT = 9;
    private static final int SHIFT_RIGHT = 10;
    private static final int LESS = 11;
    private static final int AT_MOST = 12;
    private static final int MORE = 13;
    private static final int AT_LEAST = 14;
    private static final int EQUAL = 15;
    private static final int UNEQUAL = 16;
    private static final int READ = 17;
    private static final int WRITE = 18;
    private static final int ARGUMENT = 19;
    private static final int CALL = 20;
    private static final int PARAMETER = 21;
    private static final int GO = 22;
    private static final int FORK = 23;
    private static final int RETURN = 24;
    private static final int COPY = 25;
    private static final int FETCH = 26;
    private static final int STORE = 27;
    private static final int FORK_ZERO = 28;

    // Steps of texts that are no steps of blocks.
    private static final int GET = 30;
    private static final int SET = 31;
    private static final int KEEP = 32;
    private static final int SKIP_IF_ZERO = 33;
    private static final int SKIP_IF_SET = 34;
    private static final int LABEL = 35;
    private static final int FORGET = 36;
    private static final int NOTHING = 37;

    private static final int RETURNED = 0;
    private static final int DIVIDED_BY_ZERO = 1;
    private static final int TOO_LONG = 2;
    private static final int TOO_DEEP = 3;

    private final Tokens tokens;
    private final Reader reader;
    private final Flow[] flows;
    private final Maker maker;
    private final Passes passes;
    private final Allocator allocator;
    private final Machine machine;
    private final int[][] ends;
    private Program program;
    private Program spare;
    private int errorPlace;

    public Gearbox() {
        tokens = new Tokens();
        reader = new Reader(tokens);
        flows = new Flow[MOST_FUNCTIONS];
        for (int f = 0; f < MOST_FUNCTIONS; f++) {
            flows[f] = new Flow();
        }
        Shape shape = new Shape();
        maker = new Maker(shape);
        passes = new Passes(shape);
        allocator = new Allocator();
        program = new Program();
        spare = new Program();
        machine = new Machine(program, flows, allocator);
        ends = new int[WAYS + 1][Machine.ENDING];
        errorPlace = NONE;
    }

    // ---- programs

    public int feed(int a, int b, int c, int d, int e) throws IllegalStateException {
        if (tokens.length + 20 > MOST_BYTES) {
            throw new IllegalStateException("the tape is full");
        }
        tokens.append(a);
        tokens.append(b);
        tokens.append(c);
        tokens.append(d);
        tokens.append(e);
        return tokens.length;
    }

    public int trim(int bytes) throws IllegalArgumentException {
        if (bytes < 0 || bytes > tokens.length) {
            throw new IllegalArgumentException("the tape is shorter");
        }
        tokens.length = bytes;
        return bytes;
    }

    public int load() {
        int error = reader.readProgram(spare);
        int place = reader.faultPlace;
        tokens.length = 0;
        for (int f = 0; error == 0 && f < spare.functions; f++) {
            if (!maker.make(spare, f, allocator.work)) {
                error = 6;
                place = spare.namePlace[f];
            }
        }
        errorPlace = error == 0 ? NONE : place;
        if (error == 0) {
            Program old = program;
            program = spare;
            spare = old;
            machine.begin(program);
            restore();
        }
        return error;
    }

    public int errorAt() {
        return errorPlace;
    }

    public int restore() {
        int all = 0;
        for (int f = 0; f < program.functions; f++) {
            maker.make(program, f, flows[f]);
            all += flows[f].blocks;
        }
        allocator.hasCode = false;
        return all;
    }

    // ---- functions and blocks

    public int functions() {
        return program.functions;
    }

    public int parametersOf(int function) throws IndexOutOfBoundsException {
        needFunction(function);
        return program.parameters[function];
    }

    public int blocks(int function) throws IndexOutOfBoundsException {
        needFunction(function);
        return flows[function].blocks;
    }

    public int values(int function) throws IndexOutOfBoundsException {
        needFunction(function);
        return flows[function].countValues();
    }

    public int blockOf(int function, int value) throws IndexOutOfBoundsException {
        needFunction(function);
        return value < 0 ? NONE : flows[function].homeOf(value);
    }

    public int dominatorOf(int function, int block) throws IndexOutOfBoundsException {
        return flowWith(function, block).dominator[block];
    }

    public int depthOf(int function, int block) throws IndexOutOfBoundsException {
        return flowWith(function, block).depth[block];
    }

    public int predecessors(int function, int block) throws IndexOutOfBoundsException {
        return flowWith(function, block).waysTo(block);
    }

    public int predecessor(int function, int block, int place) throws IndexOutOfBoundsException {
        Flow flow = flowWith(function, block);
        needPlace(place, flow.waysTo(block));
        return flow.wayFrom(block, place);
    }

    public int endOf(int function, int block) throws IndexOutOfBoundsException {
        return flowWith(function, block).end[block];
    }

    public int successor(int function, int block, boolean isSecond) throws IndexOutOfBoundsException {
        Flow flow = flowWith(function, block);
        return isSecond ? flow.second[block] : flow.first[block];
    }

    public int endValue(int function, int block) throws IndexOutOfBoundsException {
        return flowWith(function, block).endValue[block];
    }

    // ---- phis and steps

    public int phis(int function, int block) throws IndexOutOfBoundsException {
        return flowWith(function, block).countPhis(block);
    }

    public int phiGives(int function, int block, int phi) throws IndexOutOfBoundsException {
        Flow flow = flowWith(function, block);
        int at = flow.phiAt(block, phi);
        needPresent(at);
        return flow.phiGives[at];
    }

    public int phiTakes(int function, int block, int phi, int place) throws IndexOutOfBoundsException {
        Flow flow = flowWith(function, block);
        int at = flow.phiAt(block, phi);
        needPresent(at);
        needPlace(place, flow.waysTo(block));
        return flow.take(at, flow.wayFrom(block, place));
    }

    public int steps(int function, int block) throws IndexOutOfBoundsException {
        return flowWith(function, block).countSteps(block);
    }

    public int kindOf(int function, int block, int step) throws IndexOutOfBoundsException {
        int at = stepAt(function, block, step);
        return flows[function].steps.kind[at];
    }

    public int gives(int function, int block, int step) throws IndexOutOfBoundsException {
        int at = stepAt(function, block, step);
        return flows[function].steps.gives[at];
    }

    public int leftOf(int function, int block, int step) throws IndexOutOfBoundsException {
        int at = stepAt(function, block, step);
        return flows[function].steps.left[at];
    }

    public int rightOf(int function, int block, int step) throws IndexOutOfBoundsException {
        int at = stepAt(function, block, step);
        return flows[function].steps.right[at];
    }

    // ---- passes

    public int fold() {
        int changes = 0;
        for (int f = 0; f < program.functions; f++) {
            changes += passes.foldNumbers(flows[f]);
        }
        return changes;
    }

    public int same() {
        int changes = 0;
        for (int f = 0; f < program.functions; f++) {
            changes += passes.joinEquals(flows[f]);
        }
        return changes;
    }

    public int drop() {
        int changes = 0;
        for (int f = 0; f < program.functions; f++) {
            changes += passes.dropUnwanted(flows[f]);
        }
        return changes;
    }

    public int lift() {
        int changes = 0;
        for (int f = 0; f < program.functions; f++) {
            changes += passes.liftFromLoops(flows[f]);
        }
        return changes;
    }

    public int merge() {
        int changes = 0;
        for (int f = 0; f < program.functions; f++) {
            changes += passes.mergeBlocks(flows[f]);
        }
        return changes;
    }

    public int settle() {
        int times = 0;
        boolean changed = true;
        for (int n = 0; changed && n < MANY; n++) {
            int changes = fold();
            changes += same();
            changes += drop();
            changes += lift();
            changes += merge();
            changed = changes > 0;
            times++;
        }
        return times;
    }

    // ---- code

    public int allocate(int registers) throws IllegalArgumentException, IllegalStateException {
        if (registers < LEAST_REGISTERS || registers > MOST_REGISTERS) {
            throw new IllegalArgumentException("there are 3 to 8 registers");
        }
        if (program.functions == 0) {
            throw new IllegalStateException("there is no program");
        }
        return allocator.makeCode(flows, program.functions, registers);
    }

    public int lines(int function) throws IndexOutOfBoundsException {
        needFunction(function);
        return lineCount(function);
    }

    public int codeKind(int function, int line) throws IndexOutOfBoundsException {
        return codeWith(function, line).kind[line];
    }

    public int codeGives(int function, int line) throws IndexOutOfBoundsException {
        return codeWith(function, line).gives[line];
    }

    public int codeLeft(int function, int line) throws IndexOutOfBoundsException {
        return codeWith(function, line).left[line];
    }

    public int codeRight(int function, int line) throws IndexOutOfBoundsException {
        return codeWith(function, line).right[line];
    }

    public int slots(int function) throws IndexOutOfBoundsException {
        needFunction(function);
        return allocator.hasCode ? allocator.slotCounts[function] : 0;
    }

    public int united(int function) throws IndexOutOfBoundsException {
        needFunction(function);
        return allocator.hasCode ? allocator.unitedCounts[function] : 0;
    }

    public int rounds(int function) throws IndexOutOfBoundsException {
        needFunction(function);
        return allocator.hasCode ? allocator.roundCounts[function] : 0;
    }

    // ---- runs

    public int run(int way, int function, int a, int b, int c, int d)
            throws IndexOutOfBoundsException, IllegalArgumentException, IllegalStateException {
        needFunction(function);
        if (way < 0 || way >= WAYS) {
            throw new IllegalArgumentException("a way is 0, 1 or 2");
        }
        if (way == 2 && !allocator.hasCode) {
            throw new IllegalStateException("there is no code");
        }
        machine.tell(a, b, c, d);
        machine.start(way, function);
        return machine.outcome;
    }

    public int outcome() {
        return machine.outcome;
    }

    public int result() {
        return machine.result;
    }

    public int stepsRun() {
        return machine.steps;
    }

    public int word(int place) throws IndexOutOfBoundsException {
        needPlace(place, WORDS);
        return machine.memory[place];
    }

    public int differences(int function, int low, int high)
            throws IndexOutOfBoundsException, IllegalArgumentException {
        needFunction(function);
        long more = (long) high - (long) low;
        if (more < 0 || more > 5) {
            throw new IllegalArgumentException("high is 0 to 5 more than low");
        }
        machine.save(ends[WAYS]);
        int count = 0;
        for (int n = 0; n <= (int) more; n++) {
            if (differs(function, low, high, low + n)) {
                count++;
            }
        }
        machine.bringBack(ends[WAYS]);
        return count;
    }

    public double meanCode() {
        if (!allocator.hasCode || program.functions == 0) {
            return 0.0;
        }
        int all = 0;
        for (int f = 0; f < program.functions; f++) {
            all += lineCount(f);
        }
        return (double) all / (double) program.functions;
    }

    public long digest() {
        long d = 58009;
        d = d * 31 + program.functions;
        d = d * 31 + errorPlace;
        d = d * 31 + machine.outcome;
        d = d * 31 + machine.result;
        d = d * 31 + machine.steps;
        for (int place = 0; place < WORDS; place++) {
            d = d * 31 + machine.memory[place];
        }
        for (int f = 0; f < program.functions; f++) {
            d = digestFunction(d, f);
        }
        return d;
    }

    // ---- what the face needs

    private void needFunction(int function) {
        if (function < 0 || function >= program.functions) {
            throw new IndexOutOfBoundsException("there is no such function");
        }
    }

    private void needPlace(int place, int count) {
        if (place < 0 || place >= count) {
            throw new IndexOutOfBoundsException("there is no such place");
        }
    }

    private void needPresent(int index) {
        if (index < 0) {
            throw new IndexOutOfBoundsException("there is no such phi or step");
        }
    }

    private Flow flowWith(int function, int block) {
        needFunction(function);
        needPlace(block, flows[function].blocks);
        return flows[function];
    }

    private int stepAt(int function, int block, int step) {
        int at = flowWith(function, block).stepAt(block, step);
        needPresent(at);
        return at;
    }

    private int lineCount(int function) {
        return allocator.hasCode ? allocator.code[function].count : 0;
    }

    private Steps codeWith(int function, int line) {
        needFunction(function);
        needPlace(line, lineCount(function));
        return allocator.code[function];
    }

    private boolean differs(int function, int low, int high, int x) {
        int ways = allocator.hasCode ? WAYS : WAYS - 1;
        boolean isLong = false;
        boolean isOther = false;
        for (int way = 0; way < ways; way++) {
            machine.tell(x, low, high, x);
            machine.start(way, function);
            machine.save(ends[way]);
            isLong = isLong || machine.outcome == TOO_LONG;
            isOther = isOther || !Machine.endAlike(ends[0], ends[way]);
        }
        return isOther && !isLong;
    }

    private long digestFunction(long before, int f) {
        Flow flow = flows[f];
        long d = before;
        d = d * 31 + program.parameters[f];
        d = d * 31 + flow.countValues();
        d = d * 31 + lineCount(f);
        d = d * 31 + (allocator.hasCode ? allocator.slotCounts[f] : 0);
        d = d * 31 + (allocator.hasCode ? allocator.unitedCounts[f] : 0);
        d = d * 31 + (allocator.hasCode ? allocator.roundCounts[f] : 0);
        d = d * 31 + flow.blocks;
        for (int b = 0; b < flow.blocks; b++) {
            d = digestBlock(d, flow, b);
            d = digestPhis(d, flow, b);
            d = digestSteps(d, flow, b);
        }
        Steps code = allocator.code[f];
        for (int line = 0; line < lineCount(f); line++) {
            d = digestStep(d, code, line);
        }
        return d;
    }

    private static long digestBlock(long before, Flow flow, int b) {
        long d = before;
        d = d * 31 + flow.dominator[b];
        d = d * 31 + flow.depth[b];
        d = d * 31 + flow.countPhis(b);
        d = d * 31 + flow.countSteps(b);
        d = d * 31 + flow.end[b];
        d = d * 31 + flow.endValue[b];
        d = d * 31 + flow.first[b];
        d = d * 31 + flow.second[b];
        d = d * 31 + flow.waysTo(b);
        for (int place = 0; place < flow.waysTo(b); place++) {
            d = d * 31 + flow.wayFrom(b, place);
        }
        return d;
    }

    private static long digestPhis(long before, Flow flow, int b) {
        long d = before;
        for (int phi = flow.firstPhi[b]; phi >= 0; phi = flow.phiNext[phi]) {
            d = d * 31 + flow.phiGives[phi];
            for (int place = 0; place < flow.waysTo(b); place++) {
                d = d * 31 + flow.take(phi, flow.wayFrom(b, place));
            }
        }
        return d;
    }

    private static long digestSteps(long before, Flow flow, int b) {
        long d = before;
        for (int s = flow.firstStep[b]; s >= 0; s = flow.steps.next[s]) {
            d = digestStep(d, flow.steps, s);
        }
        return d;
    }

    private static long digestStep(long before, Steps steps, int s) {
        long d = before;
        d = d * 31 + steps.kind[s];
        d = d * 31 + steps.gives[s];
        d = d * 31 + steps.left[s];
        d = d * 31 + steps.right[s];
        return d;
    }

    // ---- what all classes share

    private static boolean isFailing(int kind, int right) {
        return (kind == DIVIDE || kind == REST) && right == 0;
    }

    private static int compute(int kind, int x, int y) {
        switch (kind) {
            case PLUS: return x + y;
            case MINUS: return x - y;
            case TIMES: return x * y;
            case DIVIDE: return y == 0 ? 0 : x / y;
            case REST: return y == 0 ? 0 : x % y;
            case AND: return x & y;
            case OR: return x | y;
            case XOR: return x ^ y;
            case SHIFT_LEFT: return x << (y & 31);
            case SHIFT_RIGHT: return x >> (y & 31);
            case LESS: return x < y ? 1 : 0;
            case AT_MOST: return x <= y ? 1 : 0;
            case MORE: return x > y ? 1 : 0;
            case AT_LEAST: return x >= y ? 1 : 0;
            case EQUAL: return x == y ? 1 : 0;
            default: return x != y ? 1 : 0;
        }
    }

    private static boolean isOperator(int kind) {
        return kind >= PLUS && kind <= UNEQUAL;
    }

    private static boolean givesValue(int kind) {
        return kind >= NUMBER && kind <= READ || kind == CALL || kind == PARAMETER;
    }

    private static boolean usesLeft(int kind) {
        return kind >= PLUS && kind <= ARGUMENT || kind == COPY || kind == STORE;
    }

    private static boolean usesRight(int kind) {
        return isOperator(kind) || kind == WRITE;
    }

    private static boolean holds(long set, int member) {
        return (set >>> member & 1L) != 0;
    }

    private static int lowest(long set) {
        return Long.bitCount((set & -set) - 1);
    }

    private static int[] atLeast(int[] array, int length) {
        return array.length >= length ? array : Arrays.copyOf(array, length + length / 2);
    }

    private static long[] atLeast(long[] array, int length) {
        return array.length >= length ? array : Arrays.copyOf(array, length + length / 2);
    }

    /** The tape, and the tokens on it, one after the other. */
    private static final class Tokens {
        static final int END = 0;
        static final int WRONG = 1;
        static final int FIGURE = 2;
        static final int NAME = 3;
        static final int BREAK = 4;
        static final int CONTINUE = 5;
        static final int ELSE = 6;
        static final int FUN = 7;
        static final int IF = 8;
        static final int LEAVE = 9;
        static final int VAR = 10;
        static final int WHILE = 11;
        // A sign of one byte has that byte as its kind; one of two bytes has this added.
        static final int TWICE = 256;
        static final int WITH_EQUAL = 512;

        private static final String SIGNS = "(){}[],;=+-*/%&|^!<>";
        private static final int LONGEST_WORD = 8;
        private static final int LONGEST_FIGURE = 9;

        // The keywords' bytes, the first one highest.
        private static final long BREAK_BYTES = 0x627265616BL;
        private static final long CONTINUE_BYTES = 0x636F6E74696E7565L;
        private static final long ELSE_BYTES = 0x656C7365L;
        private static final long FUN_BYTES = 0x66756EL;
        private static final long IF_BYTES = 0x6966L;
        private static final long RETURN_BYTES = 0x72657475726EL;
        private static final long VAR_BYTES = 0x766172L;
        private static final long WHILE_BYTES = 0x7768696C65L;

        final int[] tape = new int[MOST_BYTES];
        int length;
        int kind;
        int place;
        int figure;
        long name;
        private int after;
        private int count;

        void append(int number) {
            for (int shift = 24; shift >= 0 && length < MOST_BYTES; shift -= 8) {
                tape[length] = number >>> shift & 255;
                length++;
            }
        }

        void begin() {
            after = 0;
            count = 0;
            advance();
        }

        void advance() {
            while (after < length && (tape[after] == 32 || tape[after] == 10)) {
                after++;
            }
            place = after;
            if (after >= length) {
                kind = END;
                return;
            }
            count++;
            int c = tape[after];
            if (count > MOST_TOKENS) {
                kind = WRONG;
            } else if (isLetter(c)) {
                readWord();
                kind = after - place > LONGEST_WORD ? WRONG : kindOfWord(name);
            } else if (isDigit(c)) {
                readFigure();
                kind = after - place > LONGEST_FIGURE ? WRONG : FIGURE;
            } else {
                readSign(c);
            }
        }

        private void readWord() {
            name = 0;
            int c = tape[after];
            while (c >= 'a' && c <= 'z' || c >= '0' && c <= '9') {
                name = name * 256 + c;
                after++;
                c = after < length ? tape[after] : 0;
            }
        }

        private static int kindOfWord(long word) {
            if (word == BREAK_BYTES) {
                return BREAK;
            }
            if (word == CONTINUE_BYTES) {
                return CONTINUE;
            }
            if (word == ELSE_BYTES) {
                return ELSE;
            }
            if (word == FUN_BYTES) {
                return FUN;
            }
            if (word == IF_BYTES) {
                return IF;
            }
            if (word == RETURN_BYTES) {
                return LEAVE;
            }
            if (word == VAR_BYTES) {
                return VAR;
            }
            return word == WHILE_BYTES ? WHILE : NAME;
        }

        private void readFigure() {
            figure = 0;
            for (; after < length && tape[after] >= '0' && tape[after] <= '9'; after++) {
                figure = figure * 10 + (tape[after] - '0');
            }
        }

        private void readSign(int c) {
            after++;
            int then = after < length ? tape[after] : 0;
            if (then == c && (c == '<' || c == '>' || c == '&' || c == '|')) {
                kind = TWICE + c;
                after++;
            } else if (then == '=' && (c == '<' || c == '>' || c == '=' || c == '!')) {
                kind = WITH_EQUAL + c;
                after++;
            } else {
                kind = SIGNS.indexOf((char) c) >= 0 ? c : WRONG;
            }
        }

        private static boolean isLetter(int c) {
            return c >= 'a' && c <= 'z';
        }

        private static boolean isDigit(int c) {
            return c >= '0' && c <= '9';
        }
    }

    /** A program as steps of its text: operands wait in a row, and each step takes its own from the row's end. */
    private static final class Program {
        int functions;
        final long[] name = new long[MOST_FUNCTIONS];
        final int[] namePlace = new int[MOST_FUNCTIONS];
        final int[] parameters = new int[MOST_FUNCTIONS];
        final int[] variables = new int[MOST_FUNCTIONS];
        final int[] from = new int[MOST_FUNCTIONS];
        final int[] to = new int[MOST_FUNCTIONS];
        int ops;
        final int[] op = new int[MOST_OPS];
        final int[] argument = new int[MOST_OPS];
        // How many steps of the text begin ahead of this one: an operator begins ahead of what it works on.
        final int[] ticks = new int[MOST_OPS];
        int labels;
        final int[] labelAt = new int[MOST_LABELS];

        void clear() {
            functions = 0;
            ops = 0;
            labels = 0;
        }

        void emit(int kind, int of, int begins) {
            if (ops < MOST_OPS) {
                op[ops] = kind;
                argument[ops] = of;
                ticks[ops] = begins;
                ops++;
            }
        }

        void tick(int place) {
            if (place < MOST_OPS) {
                ticks[place]++;
            }
        }

        int newLabel() {
            if (labels < MOST_LABELS) {
                labels++;
            }
            return labels - 1;
        }

        void putLabel(int label) {
            labelAt[label] = ops;
            emit(LABEL, label, 0);
        }

        int newVariable(int function) {
            if (variables[function] < MOST_VARIABLES) {
                variables[function]++;
            }
            return variables[function] - 1;
        }

        int find(long wanted, int below) {
            for (int f = 0; f < below; f++) {
                if (name[f] == wanted) {
                    return f;
                }
            }
            return NONE;
        }
    }

    /** Reads tokens as a program, and finds the errors 1 to 5. */
    private static final class Reader {
        private static final int SHORT_CUTS_BELOW = 2;
        private static final int COMPARISON = 2;
        private static final int SUM = 3;
        private static final int PRODUCT = 4;

        int faultPlace;
        private final Tokens tokens;
        private Program program;
        private int function;
        private int open;
        private int tallPlace;
        private int fault;
        private final long[] seenName = new long[MOST_VARIABLES];
        private final int[] seenVariable = new int[MOST_VARIABLES];
        private int seen;
        private final int[] loopHead = new int[MOST_OPEN + 1];
        private final int[] loopEnd = new int[MOST_OPEN + 1];
        private int loops;
        private final long[] callName = new long[MOST_TOKENS];
        private final int[] callOp = new int[MOST_TOKENS];
        private final int[] callPlace = new int[MOST_TOKENS];
        private final int[] callArguments = new int[MOST_TOKENS];
        private int calls;

        Reader(Tokens tokens) {
            this.tokens = tokens;
        }

        /** Returns the error; its place is faultPlace then. */
        int readProgram(Program target) {
            program = target;
            program.clear();
            open = 0;
            tallPlace = NONE;
            fault = 0;
            faultPlace = NONE;
            calls = 0;
            tokens.begin();
            try {
                for (int f = 0; f <= MOST_FUNCTIONS && (f == 0 || tokens.kind != Tokens.END); f++) {
                    readFunction(f);
                }
            } catch (IllegalArgumentException wrongToken) {
                faultPlace = tokens.place;
                return 1;
            }
            if (tallPlace >= 0) {
                faultPlace = tallPlace;
                return 2;
            }
            linkCalls();
            return fault;
        }

        private void readFunction(int f) {
            if (f >= MOST_FUNCTIONS) {
                refuse();
            }
            function = f;
            seen = 0;
            loops = 0;
            expect(Tokens.FUN);
            if (program.find(tokens.name, f) >= 0) {
                blame(3, tokens.place);
            }
            program.name[f] = tokens.name;
            program.namePlace[f] = tokens.place;
            expect(Tokens.NAME);
            program.functions = f + 1;
            program.parameters[f] = 0;
            program.variables[f] = 0;
            program.from[f] = program.ops;
            expect('(');
            readParameters();
            expect(')');
            readBlock();
            program.emit(NUMBER, 0, 0);
            program.emit(RETURN, 0, 0);
            program.to[f] = program.ops;
        }

        private void readParameters() {
            for (int n = 0; n <= MOST_PARAMETERS && tokens.kind != ')'; n++) {
                if (n > 0) {
                    expect(',');
                }
                if (n == MOST_PARAMETERS) {
                    refuse();
                }
                long name = tokens.name;
                int place = tokens.place;
                expect(Tokens.NAME);
                if (variableOf(name) >= 0) {
                    blame(3, place);
                }
                declare(name);
                program.emit(PARAMETER, n, 0);
                program.parameters[function] = n + 1;
            }
        }

        private void readBlock() {
            int seenAhead = seen;
            expect('{');
            for (int n = 0; n <= MOST_TOKENS && tokens.kind != '}'; n++) {
                readStatement();
            }
            expect('}');
            seen = seenAhead;
        }

        private void readStatement() {
            int start = program.ops;
            switch (tokens.kind) {
                case Tokens.VAR:
                    long own = readNewName();
                    readTest(0);
                    program.emit(SET, declare(own), 0);
                    expect(';');
                    break;
                case Tokens.NAME:
                    long name = tokens.name;
                    int place = tokens.place;
                    expect(Tokens.NAME);
                    if (tokens.kind == '(') {
                        readCall(name, place);
                        program.emit(FORGET, 0, 0);
                    } else {
                        expect('=');
                        int variable = seenVariableOf(name, place);
                        readTest(0);
                        program.emit(SET, variable, 0);
                    }
                    expect(';');
                    break;
                case '[':
                    expect('[');
                    readTest(0);
                    expect(']');
                    expect('=');
                    readTest(0);
                    program.emit(WRITE, 0, 0);
                    expect(';');
                    break;
                case Tokens.LEAVE:
                    expect(Tokens.LEAVE);
                    readTest(0);
                    program.emit(RETURN, 0, 0);
                    expect(';');
                    break;
                case Tokens.IF: readIf(); break;
                case Tokens.WHILE: readWhile(); break;
                case Tokens.BREAK: readLeave(loopEnd); break;
                case Tokens.CONTINUE: readLeave(loopHead); break;
                default: refuse();
            }
            program.tick(start);
        }

        private long readNewName() {
            expect(Tokens.VAR);
            long name = tokens.name;
            int place = tokens.place;
            expect(Tokens.NAME);
            if (variableOf(name) >= 0) {
                blame(3, place);
            }
            expect('=');
            return name;
        }

        private void readIf() {
            expect(Tokens.IF);
            readTest(0);
            int past = program.newLabel();
            program.emit(SKIP_IF_ZERO, past, 0);
            readBlock();
            if (tokens.kind == Tokens.ELSE) {
                expect(Tokens.ELSE);
                int end = program.newLabel();
                program.emit(GO, end, 0);
                program.putLabel(past);
                readBlock();
                program.putLabel(end);
            } else {
                program.putLabel(past);
            }
        }

        private void readWhile() {
            expect(Tokens.WHILE);
            // A while is one step however often its test is evaluated, so this stands ahead of its label.
            program.emit(NOTHING, 0, 0);
            int head = program.newLabel();
            int end = program.newLabel();
            program.putLabel(head);
            readTest(0);
            program.emit(SKIP_IF_ZERO, end, 0);
            if (loops < MOST_OPEN) {
                loopHead[loops] = head;
                loopEnd[loops] = end;
            }
            loops++;
            readBlock();
            loops--;
            program.emit(GO, head, 0);
            program.putLabel(end);
        }

        private void readLeave(int[] labels) {
            if (loops == 0) {
                blame(5, tokens.place);
            } else if (loops <= MOST_OPEN) {
                program.emit(GO, labels[loops - 1], 0);
            }
            tokens.advance();
            expect(';');
        }

        /** Reads operators of this row and of all that bind more, and returns the height. */
        private int readTest(int row) {
            int start = program.ops;
            int height = readOperand(row);
            for (int n = 0; n < MOST_TOKENS && rowOf(tokens.kind) == row; n++) {
                int sign = tokens.kind;
                int place = tokens.place;
                tokens.advance();
                program.tick(start);
                int right;
                if (row < SHORT_CUTS_BELOW) {
                    right = readShortCut(row);
                } else {
                    right = readOperand(row);
                    program.emit(kindOfSign(sign), 0, 0);
                }
                height = raise(Math.max(height, right), place);
                if (row == COMPARISON) {
                    break;
                }
            }
            return height;
        }

        private int readOperand(int row) {
            return row == PRODUCT ? readSigned() : readTest(row + 1);
        }

        private int readShortCut(int row) {
            int variable = program.newVariable(function);
            int end = program.newLabel();
            emitTruth();
            program.emit(KEEP, variable, 0);
            program.emit(row == 0 ? SKIP_IF_SET : SKIP_IF_ZERO, end, 0);
            int height = readOperand(row);
            emitTruth();
            program.emit(SET, variable, 0);
            program.putLabel(end);
            program.emit(GET, variable, 0);
            return height;
        }

        private void emitTruth() {
            program.emit(NUMBER, 0, 0);
            program.emit(UNEQUAL, 0, 0);
        }

        private int readSigned() {
            int sign = tokens.kind;
            int place = tokens.place;
            if (sign == '-') {
                tokens.advance();
                program.emit(NUMBER, 0, 1);
                int height = readSingle();
                program.emit(MINUS, 0, 0);
                return raise(height, place);
            }
            if (sign == '!') {
                tokens.advance();
                int start = program.ops;
                int height = readSingle();
                program.tick(start);
                program.emit(NUMBER, 0, 0);
                program.emit(EQUAL, 0, 0);
                return raise(height, place);
            }
            return readSingle();
        }

        private int readSingle() {
            int place = tokens.place;
            int height = 1;
            if (tokens.kind == Tokens.FIGURE) {
                program.emit(NUMBER, tokens.figure, 1);
                tokens.advance();
            } else if (tokens.kind == Tokens.NAME) {
                long name = tokens.name;
                tokens.advance();
                if (tokens.kind == '(') {
                    height = readCall(name, place);
                } else {
                    program.emit(GET, seenVariableOf(name, place), 1);
                }
            } else if (tokens.kind == '[') {
                expect('[');
                int start = program.ops;
                height = readTest(0);
                program.tick(start);
                expect(']');
                program.emit(READ, 0, 0);
                height = raise(height, place);
            } else {
                expect('(');
                height = readTest(0);
                expect(')');
            }
            return height;
        }

        private int readCall(long name, int place) {
            int start = program.ops;
            int height = 0;
            int count = 0;
            expect('(');
            for (; count <= MOST_PARAMETERS && tokens.kind != ')'; count++) {
                if (count > 0) {
                    expect(',');
                }
                if (count == MOST_PARAMETERS) {
                    refuse();
                }
                height = Math.max(height, readTest(0));
            }
            expect(')');
            for (int left = count; left > 0; left--) {
                program.emit(ARGUMENT, left, 0);
            }
            noteCall(name, place, count);
            program.emit(CALL, 0, 0);
            program.tick(start);
            return raise(height, place);
        }

        private void noteCall(long name, int place, int count) {
            if (calls < MOST_TOKENS) {
                callName[calls] = name;
                callOp[calls] = program.ops;
                callPlace[calls] = place;
                callArguments[calls] = count;
                calls++;
            }
        }

        private void linkCalls() {
            for (int n = 0; n < calls; n++) {
                int called = program.find(callName[n], program.functions);
                if (called < 0) {
                    blame(3, callPlace[n]);
                } else if (callArguments[n] != program.parameters[called]) {
                    blame(4, callPlace[n]);
                } else if (callOp[n] < MOST_OPS) {
                    program.argument[callOp[n]] = called;
                }
            }
        }

        private int raise(int height, int place) {
            if (height >= MOST_HEIGHT && (tallPlace < 0 || place < tallPlace)) {
                tallPlace = place;
            }
            return height + 1;
        }

        private void blame(int error, int place) {
            if (fault == 0 || place < faultPlace || place == faultPlace && error < fault) {
                fault = error;
                faultPlace = place;
            }
        }

        private int declare(long name) {
            int variable = program.newVariable(function);
            if (seen < MOST_VARIABLES) {
                seenName[seen] = name;
                seenVariable[seen] = variable;
                seen++;
            }
            return variable;
        }

        private int variableOf(long name) {
            for (int n = 0; n < seen; n++) {
                if (seenName[n] == name) {
                    return seenVariable[n];
                }
            }
            return NONE;
        }

        private int seenVariableOf(long name, int place) {
            int variable = variableOf(name);
            if (variable < 0) {
                blame(3, place);
            }
            return variable;
        }

        private void expect(int kind) {
            boolean opens = kind == '(' || kind == '[' || kind == '{';
            if (tokens.kind != kind || opens && open == MOST_OPEN) {
                refuse();
            }
            if (opens) {
                open++;
            } else if (kind == ')' || kind == ']' || kind == '}') {
                open--;
            }
            tokens.advance();
        }

        private void refuse() {
            throw new IllegalArgumentException("this token cannot stand here");
        }

        private static int rowOf(int sign) {
            if (sign == Tokens.TWICE + '|') {
                return 0;
            }
            if (sign == Tokens.TWICE + '&') {
                return 1;
            }
            int kind = kindOfSign(sign);
            if (kind < 0) {
                return NONE;
            }
            if (kind >= LESS) {
                return COMPARISON;
            }
            return kind == PLUS || kind == MINUS || kind == OR || kind == XOR ? SUM : PRODUCT;
        }

        private static int kindOfSign(int sign) {
            switch (sign) {
                case '+': return PLUS;
                case '-': return MINUS;
                case '*': return TIMES;
                case '/': return DIVIDE;
                case '%': return REST;
                case '&': return AND;
                case '|': return OR;
                case '^': return XOR;
                case Tokens.TWICE + '<': return SHIFT_LEFT;
                case Tokens.TWICE + '>': return SHIFT_RIGHT;
                case '<': return LESS;
                case Tokens.WITH_EQUAL + '<': return AT_MOST;
                case '>': return MORE;
                case Tokens.WITH_EQUAL + '>': return AT_LEAST;
                case Tokens.WITH_EQUAL + '=': return EQUAL;
                case Tokens.WITH_EQUAL + '!': return UNEQUAL;
                default: return NONE;
            }
        }
    }

    /** Steps of blocks in chains, or the lines of code in a row. */
    private static final class Steps {
        int count;
        int[] kind;
        int[] gives;
        int[] left;
        int[] right;
        int[] next;

        Steps(int room) {
            kind = new int[room];
            gives = new int[room];
            left = new int[room];
            right = new int[room];
            next = new int[room];
        }

        int add(int newKind, int newGives, int newLeft, int newRight) {
            if (count >= kind.length) {
                int room = count + count / 2 + 1;
                kind = Arrays.copyOf(kind, room);
                gives = Arrays.copyOf(gives, room);
                left = Arrays.copyOf(left, room);
                right = Arrays.copyOf(right, room);
                next = Arrays.copyOf(next, room);
            }
            kind[count] = newKind;
            gives[count] = newGives;
            left[count] = newLeft;
            right[count] = newRight;
            next[count] = NONE;
            count++;
            return count - 1;
        }
    }

    /** The blocks of a function. */
    private static final class Flow {
        private static final int FIRST_ROOM = 256;
        private static final int FIRST_PHIS = 32;

        int blocks;
        // How many numbers of values there are, also of those that were left out.
        int limit;
        final Steps steps = new Steps(FIRST_ROOM);
        final int[] firstStep = new int[MOST_BLOCKS];
        final int[] lastStep = new int[MOST_BLOCKS];
        final int[] firstPhi = new int[MOST_BLOCKS];
        final int[] lastPhi = new int[MOST_BLOCKS];
        final int[] end = new int[MOST_BLOCKS];
        final int[] endValue = new int[MOST_BLOCKS];
        final int[] first = new int[MOST_BLOCKS];
        final int[] second = new int[MOST_BLOCKS];
        final int[] dominator = new int[MOST_BLOCKS];
        final int[] depth = new int[MOST_BLOCKS];
        // The ways to a block are those from waysBegin of it to waysBegin of the next one.
        final int[] waysBegin = new int[MOST_BLOCKS + 1];
        final int[] ways = new int[2 * MOST_BLOCKS];
        // Sets of blocks: those that dominate it; those of its loop, if it is the head of one.
        final long[] dominators = new long[MOST_BLOCKS];
        final long[] loop = new long[MOST_BLOCKS];
        int phiCount;
        int[] phiGives = new int[FIRST_PHIS];
        int[] phiNext = new int[FIRST_PHIS];
        // For each phi and each block, the value that the phi takes from there.
        int[] takes = new int[FIRST_PHIS * MOST_BLOCKS];

        void clear() {
            blocks = 0;
            limit = 0;
            steps.count = 0;
            phiCount = 0;
        }

        int addBlock(int kind, int value, int to, int orTo) {
            int b = blocks;
            firstStep[b] = NONE;
            lastStep[b] = NONE;
            firstPhi[b] = NONE;
            lastPhi[b] = NONE;
            end[b] = kind;
            endValue[b] = value;
            first[b] = to;
            second[b] = orTo;
            blocks++;
            return b;
        }

        void copyFrom(Flow other) {
            clear();
            limit = other.limit;
            for (int b = 0; b < other.blocks; b++) {
                addBlock(other.end[b], other.endValue[b], other.first[b], other.second[b]);
                depth[b] = other.depth[b];
                for (int phi = other.firstPhi[b]; phi >= 0; phi = other.phiNext[phi]) {
                    int own = addPhi(b, other.phiGives[phi]);
                    System.arraycopy(other.takes, phi * MOST_BLOCKS, takes, own * MOST_BLOCKS, MOST_BLOCKS);
                }
                for (int s = other.firstStep[b]; s >= 0; s = other.steps.next[s]) {
                    addStep(b, other.steps.kind[s], other.steps.gives[s], other.steps.left[s], other.steps.right[s]);
                }
            }
            System.arraycopy(other.waysBegin, 0, waysBegin, 0, blocks + 1);
            System.arraycopy(other.ways, 0, ways, 0, waysBegin[blocks]);
        }

        // ---- ways

        int waysTo(int block) {
            return waysBegin[block + 1] - waysBegin[block];
        }

        int wayFrom(int block, int place) {
            return ways[waysBegin[block] + place];
        }

        boolean leads(int from, int to) {
            return first[from] == to || second[from] == to;
        }

        // ---- steps

        int addStep(int block, int kind, int gives, int left, int right) {
            int s = steps.add(kind, gives, left, right);
            link(block, s);
            return s;
        }

        void link(int block, int step) {
            steps.next[step] = NONE;
            if (firstStep[block] < 0) {
                firstStep[block] = step;
            } else {
                steps.next[lastStep[block]] = step;
            }
            lastStep[block] = step;
        }

        /** Leaves a block without steps, and returns the first one of the chain that it had. */
        int takeSteps(int block) {
            int chain = firstStep[block];
            firstStep[block] = NONE;
            lastStep[block] = NONE;
            return chain;
        }

        int countSteps(int block) {
            int count = 0;
            for (int s = firstStep[block]; s >= 0; s = steps.next[s]) {
                count++;
            }
            return count;
        }

        int stepAt(int block, int place) {
            int left = place;
            for (int s = firstStep[block]; s >= 0; s = steps.next[s]) {
                if (left == 0) {
                    return s;
                }
                left--;
            }
            return NONE;
        }

        // ---- phis

        int addPhi(int block, int gives) {
            if (phiCount >= phiGives.length) {
                phiGives = atLeast(phiGives, phiCount + 1);
                phiNext = atLeast(phiNext, phiCount + 1);
                takes = atLeast(takes, (phiCount + 1) * MOST_BLOCKS);
            }
            int phi = phiCount;
            phiGives[phi] = gives;
            linkPhi(block, phi);
            phiCount++;
            return phi;
        }

        void linkPhi(int block, int phi) {
            phiNext[phi] = NONE;
            if (firstPhi[block] < 0) {
                firstPhi[block] = phi;
            } else {
                phiNext[lastPhi[block]] = phi;
            }
            lastPhi[block] = phi;
        }

        int takePhis(int block) {
            int chain = firstPhi[block];
            firstPhi[block] = NONE;
            lastPhi[block] = NONE;
            return chain;
        }

        int countPhis(int block) {
            int count = 0;
            for (int phi = firstPhi[block]; phi >= 0; phi = phiNext[phi]) {
                count++;
            }
            return count;
        }

        int phiAt(int block, int place) {
            int left = place;
            for (int phi = firstPhi[block]; phi >= 0; phi = phiNext[phi]) {
                if (left == 0) {
                    return phi;
                }
                left--;
            }
            return NONE;
        }

        int take(int phi, int from) {
            return takes[phi * MOST_BLOCKS + from];
        }

        void setTake(int phi, int from, int value) {
            takes[phi * MOST_BLOCKS + from] = value;
        }

        // ---- values

        int countValues() {
            int count = 0;
            for (int b = 0; b < blocks; b++) {
                count += countPhis(b);
                for (int s = firstStep[b]; s >= 0; s = steps.next[s]) {
                    count += steps.gives[s] >= 0 ? 1 : 0;
                }
            }
            return count;
        }

        int homeOf(int value) {
            for (int b = 0; b < blocks; b++) {
                for (int phi = firstPhi[b]; phi >= 0; phi = phiNext[phi]) {
                    if (phiGives[phi] == value) {
                        return b;
                    }
                }
                for (int s = firstStep[b]; s >= 0; s = steps.next[s]) {
                    if (steps.gives[s] == value) {
                        return b;
                    }
                }
            }
            return NONE;
        }

        /** Leaves out the phis and steps whose value is marked. */
        void leaveOut(int[] marks) {
            for (int b = 0; b < blocks; b++) {
                int then;
                for (int phi = takePhis(b); phi >= 0; phi = then) {
                    then = phiNext[phi];
                    if (marks[phiGives[phi]] == 0) {
                        linkPhi(b, phi);
                    }
                }
                for (int s = takeSteps(b); s >= 0; s = then) {
                    then = steps.next[s];
                    int value = steps.gives[s];
                    if (value < 0 || marks[value] == 0) {
                        link(b, s);
                    }
                }
            }
        }
    }

    /** Numbers the blocks of a flow, and finds its ways, dominators and loops. */
    private static final class Shape {
        // The new number of each block that there was; none of one that cannot be reached.
        final int[] renamed = new int[MOST_BLOCKS];
        private final int[] stage = new int[MOST_BLOCKS];
        private final int[] path = new int[MOST_BLOCKS];
        private final int[] finished = new int[MOST_BLOCKS];
        private final int[] row = new int[MOST_BLOCKS];

        void renumber(Flow flow) {
            int before = flow.blocks;
            int count = walk(flow);
            for (int b = 0; b < before; b++) {
                if (renamed[b] >= 0) {
                    renameWays(flow, b);
                }
            }
            move(flow.firstStep, before, count);
            move(flow.lastStep, before, count);
            move(flow.firstPhi, before, count);
            move(flow.lastPhi, before, count);
            move(flow.end, before, count);
            move(flow.endValue, before, count);
            move(flow.first, before, count);
            move(flow.second, before, count);
            flow.blocks = count;
            measure(flow);
        }

        /** Moves what an array holds of each block to the block's new number. */
        void move(int[] array, int before, int count) {
            for (int b = 0; b < before; b++) {
                if (renamed[b] >= 0) {
                    row[renamed[b]] = array[b];
                }
            }
            System.arraycopy(row, 0, array, 0, count);
        }

        private int walk(Flow flow) {
            Arrays.fill(renamed, NONE);
            Arrays.fill(stage, NONE);
            int done = 0;
            int top = 1;
            path[0] = 0;
            stage[0] = 0;
            // Each block is looked at three times: for its second way, for its first one, and to finish it.
            for (int n = 0; top > 0 && n < 3 * MOST_BLOCKS; n++) {
                int b = path[top - 1];
                int to = stage[b] == 0 ? flow.second[b] : stage[b] == 1 ? flow.first[b] : NONE;
                if (stage[b] == 2) {
                    finished[done] = b;
                    done++;
                    top--;
                }
                stage[b]++;
                if (to >= 0 && stage[to] < 0) {
                    stage[to] = 0;
                    path[top] = to;
                    top++;
                }
            }
            for (int n = 0; n < done; n++) {
                renamed[finished[n]] = done - 1 - n;
            }
            return done;
        }

        private void renameWays(Flow flow, int b) {
            flow.first[b] = flow.first[b] < 0 ? NONE : renamed[flow.first[b]];
            flow.second[b] = flow.second[b] < 0 ? NONE : renamed[flow.second[b]];
            for (int phi = flow.firstPhi[b]; phi >= 0; phi = flow.phiNext[phi]) {
                int base = phi * MOST_BLOCKS;
                for (int from = 0; from < MOST_BLOCKS; from++) {
                    if (renamed[from] >= 0) {
                        row[renamed[from]] = flow.takes[base + from];
                    }
                }
                System.arraycopy(row, 0, flow.takes, base, MOST_BLOCKS);
            }
        }

        private void measure(Flow flow) {
            findWays(flow);
            findDominators(flow);
            Arrays.fill(flow.depth, 0);
            for (int b = 0; b < flow.blocks; b++) {
                flow.loop[b] = findLoop(flow, b);
                for (int member = 0; member < flow.blocks; member++) {
                    flow.depth[member] += holds(flow.loop[b], member) ? 1 : 0;
                }
            }
        }

        private void findWays(Flow flow) {
            int count = 0;
            for (int b = 0; b < flow.blocks; b++) {
                flow.waysBegin[b] = count;
                for (int from = 0; from < flow.blocks; from++) {
                    if (flow.leads(from, b)) {
                        flow.ways[count] = from;
                        count++;
                    }
                }
            }
            flow.waysBegin[flow.blocks] = count;
        }

        private void findDominators(Flow flow) {
            long all = (1L << flow.blocks) - 1;
            for (int b = 0; b < flow.blocks; b++) {
                flow.dominators[b] = b == 0 ? 1L : all;
            }
            boolean changed = true;
            for (int n = 0; changed && n <= MOST_BLOCKS; n++) {
                changed = false;
                for (int b = 1; b < flow.blocks; b++) {
                    long common = all;
                    for (int place = 0; place < flow.waysTo(b); place++) {
                        common &= flow.dominators[flow.wayFrom(b, place)];
                    }
                    common |= 1L << b;
                    changed = changed || common != flow.dominators[b];
                    flow.dominators[b] = common;
                }
            }
            for (int b = 0; b < flow.blocks; b++) {
                flow.dominator[b] = nearest(flow.dominators[b], b);
            }
        }

        // What dominates a block has a smaller number, and the nearest has the greatest of these.
        private static int nearest(long dominators, int b) {
            for (int d = b - 1; d >= 0; d--) {
                if (holds(dominators, d)) {
                    return d;
                }
            }
            return NONE;
        }

        private static long findLoop(Flow flow, int head) {
            long members = 0;
            for (int place = 0; place < flow.waysTo(head); place++) {
                int from = flow.wayFrom(head, place);
                if (holds(flow.dominators[from], head)) {
                    members |= 1L << from;
                }
            }
            if (members == 0) {
                return 0;
            }
            members |= 1L << head;
            boolean grows = true;
            for (int n = 0; grows && n <= MOST_BLOCKS; n++) {
                long before = members;
                for (int b = flow.blocks - 1; b >= 0; b--) {
                    if (b != head && holds(members, b)) {
                        members |= waysInto(flow, b);
                    }
                }
                grows = members != before;
            }
            return members;
        }

        private static long waysInto(Flow flow, int b) {
            long from = 0;
            for (int place = 0; place < flow.waysTo(b); place++) {
                from |= 1L << flow.wayFrom(b, place);
            }
            return from;
        }
    }

    /** Makes the blocks of a function out of the steps of its text. */
    private static final class Maker {
        private final Shape shape;
        // Of each step of the text: the steps that give what it works on, and the value that it gives.
        private final int[] leftOp = new int[MOST_OPS];
        private final int[] rightOp = new int[MOST_OPS];
        private final int[] valueOf = new int[MOST_OPS];
        private final int[] waiting = new int[MOST_OPERANDS];
        // Pieces of the text that nothing leads into or out of but at their ends.
        private int pieces;
        private final int[] pieceFrom = new int[MOST_PIECES];
        private final int[] pieceTo = new int[MOST_PIECES];
        private final int[] pieceFirst = new int[MOST_PIECES];
        private final int[] pieceSecond = new int[MOST_PIECES];
        private final int[] pieceWays = new int[MOST_PIECES];
        private final int[] pieceBlock = new int[MOST_PIECES];
        private final int[] labelPiece = new int[MOST_LABELS];
        private final int[] found = new int[MOST_PIECES];
        private final int[] pieceOf = new int[MOST_BLOCKS];
        // Of each variable: the blocks that use it ahead of assigning it, and those that assign it.
        private final long[] uses = new long[MOST_VARIABLES];
        private final long[] assigns = new long[MOST_VARIABLES];
        private final long[] border = new long[MOST_BLOCKS];
        private final int[] phiVariable = new int[MOST_VALUES];
        // For each block and each variable, the value of the variable at the end of what was gone through.
        private final int[] now = new int[MOST_BLOCKS * MOST_VARIABLES];

        Maker(Shape shape) {
            this.shape = shape;
        }

        /** Returns whether there are not too many blocks and values; if there are, the flow is of no use. */
        boolean make(Program program, int f, Flow flow) {
            flow.clear();
            cutPieces(program, f);
            linkOperands(program, f);
            if (!layBlocks(program, flow)) {
                return false;
            }
            int before = flow.blocks;
            shape.renumber(flow);
            shape.move(pieceOf, before, flow.blocks);
            noteVariables(program, f, flow);
            findBorders(flow);
            for (int v = 0; v < program.variables[f]; v++) {
                if (!placePhis(flow, v)) {
                    return false;
                }
            }
            if (!numberValues(program, flow)) {
                return false;
            }
            for (int b = 0; b < flow.blocks; b++) {
                fillBlock(program, f, flow, b);
            }
            fillPhis(flow);
            return true;
        }

        // ---- pieces

        private void cutPieces(Program program, int f) {
            findLabels(program, f);
            pieces = 0;
            int from = program.from[f];
            for (int i = program.from[f]; i < program.to[f]; i++) {
                int op = program.op[i];
                int next = pieces + 1;
                if (op == LABEL) {
                    addPiece(from, i, next, NONE);
                    from = i;
                } else if (op == GO) {
                    addPiece(from, i + 1, labelPiece[program.argument[i]], NONE);
                    from = i + 1;
                } else if (op == SKIP_IF_ZERO) {
                    addPiece(from, i + 1, next, labelPiece[program.argument[i]]);
                    from = i + 1;
                } else if (op == SKIP_IF_SET) {
                    addPiece(from, i + 1, labelPiece[program.argument[i]], next);
                    from = i + 1;
                } else if (op == RETURN) {
                    addPiece(from, i + 1, NONE, NONE);
                    from = i + 1;
                }
            }
        }

        private void findLabels(Program program, int f) {
            int piece = 0;
            for (int i = program.from[f]; i < program.to[f]; i++) {
                int op = program.op[i];
                boolean isLeap = op == GO || op == SKIP_IF_ZERO || op == SKIP_IF_SET || op == RETURN;
                if (isLeap || op == LABEL) {
                    piece++;
                }
                if (op == LABEL) {
                    labelPiece[program.argument[i]] = piece;
                }
            }
        }

        private void addPiece(int from, int to, int first, int second) {
            if (pieces < MOST_PIECES) {
                pieceFrom[pieces] = from;
                pieceTo[pieces] = to;
                pieceFirst[pieces] = first;
                pieceSecond[pieces] = second;
                pieces++;
            }
        }

        private void linkOperands(Program program, int f) {
            int count = 0;
            for (int i = program.from[f]; i < program.to[f]; i++) {
                int op = program.op[i];
                leftOp[i] = NONE;
                rightOp[i] = NONE;
                if (usesRight(op)) {
                    rightOp[i] = waitingAt(count - 1);
                    leftOp[i] = waitingAt(count - 2);
                    count -= 2;
                } else if (op == ARGUMENT) {
                    leftOp[i] = waitingAt(count - program.argument[i]);
                } else if (op == KEEP) {
                    leftOp[i] = waitingAt(count - 1);
                } else if (takesOne(op)) {
                    leftOp[i] = waitingAt(count - 1);
                    count--;
                } else if (op == CALL) {
                    count -= program.parameters[program.argument[i]];
                }
                count = Math.max(count, 0);
                if (isOperator(op) || op == NUMBER || op == READ || op == CALL || op == GET) {
                    if (count < MOST_OPERANDS) {
                        waiting[count] = i;
                        count++;
                    }
                }
            }
        }

        private static boolean takesOne(int op) {
            return op == READ || op == SET || op == FORGET || op == RETURN || op == SKIP_IF_ZERO || op == SKIP_IF_SET;
        }

        private int waitingAt(int place) {
            return place < 0 || place >= MOST_OPERANDS ? NONE : waiting[place];
        }

        private int valueAt(int op) {
            return op < 0 ? NONE : valueOf[op];
        }

        // ---- blocks

        private boolean layBlocks(Program program, Flow flow) {
            int count = reachPieces();
            if (count > MOST_BLOCKS) {
                return false;
            }
            for (int n = 0; n < count; n++) {
                int piece = found[n];
                int end = pieceSecond[piece] >= 0 ? FORK : pieceFirst[piece] >= 0 ? GO : RETURN;
                pieceOf[n] = piece;
                flow.addBlock(end, NONE, blockOfPiece(pieceFirst[piece]), blockOfPiece(pieceSecond[piece]));
            }
            for (int b = 0; b < count; b++) {
                if (flow.end[b] == FORK) {
                    if (!splitWay(flow, b, flow.first) || !splitWay(flow, b, flow.second)) {
                        return false;
                    }
                }
            }
            return true;
        }

        /** Finds the pieces that can be reached, and how many ways lead to each, and returns how many these are. */
        private int reachPieces() {
            Arrays.fill(pieceBlock, NONE);
            Arrays.fill(pieceWays, 0);
            int count = 1;
            found[0] = 0;
            pieceBlock[0] = 0;
            for (int n = 0; n < count; n++) {
                count = reachOne(pieceFirst[found[n]], count);
                count = reachOne(pieceSecond[found[n]], count);
            }
            return count;
        }

        private int reachOne(int piece, int count) {
            if (piece < 0 || piece >= pieces) {
                return count;
            }
            pieceWays[piece]++;
            if (pieceBlock[piece] >= 0) {
                return count;
            }
            pieceBlock[piece] = count;
            found[count] = piece;
            return count + 1;
        }

        private int blockOfPiece(int piece) {
            return piece < 0 || piece >= pieces ? NONE : pieceBlock[piece];
        }

        private boolean splitWay(Flow flow, int from, int[] ways) {
            int to = ways[from];
            if (to < 0 || pieceWays[pieceOf[to]] < 2) {
                return true;
            }
            if (flow.blocks >= MOST_BLOCKS) {
                return false;
            }
            pieceOf[flow.blocks] = NONE;
            ways[from] = flow.addBlock(GO, NONE, to, NONE);
            return true;
        }

        private int opsFrom(int block) {
            return pieceOf[block] < 0 ? 0 : pieceFrom[pieceOf[block]];
        }

        private int opsTo(int block) {
            return pieceOf[block] < 0 ? 0 : pieceTo[pieceOf[block]];
        }

        // ---- phis

        private void noteVariables(Program program, int f, Flow flow) {
            Arrays.fill(uses, 0L);
            Arrays.fill(assigns, 0L);
            for (int b = 0; b < flow.blocks; b++) {
                for (int i = opsFrom(b); i < opsTo(b); i++) {
                    int op = program.op[i];
                    int v = program.argument[i];
                    if (op == GET && !holds(assigns[v], b)) {
                        uses[v] |= 1L << b;
                    } else if (op == SET || op == KEEP || op == PARAMETER) {
                        assigns[v] |= 1L << b;
                    }
                }
            }
        }

        private void findBorders(Flow flow) {
            Arrays.fill(border, 0L);
            for (int b = 0; b < flow.blocks; b++) {
                for (int place = 0; place < flow.waysTo(b); place++) {
                    long over = flow.dominators[flow.wayFrom(b, place)];
                    for (int d = 0; d < flow.blocks; d++) {
                        if (holds(over, d) && (d == b || !holds(flow.dominators[b], d))) {
                            border[d] |= 1L << b;
                        }
                    }
                }
            }
        }

        private long wantedAt(Flow flow, int v) {
            long wanted = uses[v];
            boolean grows = wanted != 0;
            for (int n = 0; grows && n <= MOST_BLOCKS; n++) {
                long before = wanted;
                for (int b = flow.blocks - 1; b >= 0; b--) {
                    boolean isBehind = isIn(wanted, flow.first[b]) || isIn(wanted, flow.second[b]);
                    if (isBehind && !holds(assigns[v], b)) {
                        wanted |= 1L << b;
                    }
                }
                grows = wanted != before;
            }
            return wanted;
        }

        private static boolean isIn(long set, int block) {
            return block >= 0 && holds(set, block);
        }

        private boolean placePhis(Flow flow, int v) {
            long wanted = wantedAt(flow, v);
            long phis = 0;
            boolean grows = wanted != 0;
            for (int n = 0; grows && n <= MOST_BLOCKS; n++) {
                long before = phis;
                for (int b = 0; b < flow.blocks; b++) {
                    if (holds(assigns[v] | phis, b)) {
                        phis |= border[b] & wanted;
                    }
                }
                grows = phis != before;
            }
            for (int b = 0; b < flow.blocks; b++) {
                if (holds(phis, b)) {
                    if (flow.phiCount >= MOST_VALUES) {
                        return false;
                    }
                    phiVariable[flow.addPhi(b, NONE)] = v;
                }
            }
            return true;
        }

        // ---- values

        private boolean numberValues(Program program, Flow flow) {
            int count = 0;
            for (int b = 0; b < flow.blocks; b++) {
                for (int phi = flow.firstPhi[b]; phi >= 0; phi = flow.phiNext[phi]) {
                    flow.phiGives[phi] = count;
                    count++;
                }
                for (int i = opsFrom(b); i < opsTo(b); i++) {
                    if (givesValue(program.op[i])) {
                        valueOf[i] = count;
                        count++;
                    }
                }
            }
            flow.limit = count;
            return count <= MOST_VALUES;
        }

        private void fillBlock(Program program, int f, Flow flow, int b) {
            int base = b * MOST_VARIABLES;
            if (b == 0) {
                Arrays.fill(now, 0, MOST_VARIABLES, NONE);
            } else {
                System.arraycopy(now, flow.dominator[b] * MOST_VARIABLES, now, base, program.variables[f]);
            }
            for (int phi = flow.firstPhi[b]; phi >= 0; phi = flow.phiNext[phi]) {
                now[base + phiVariable[phi]] = flow.phiGives[phi];
            }
            for (int i = opsFrom(b); i < opsTo(b); i++) {
                int v = program.argument[i];
                switch (program.op[i]) {
                    case GET: valueOf[i] = now[base + v]; break;
                    case SET:
                    case KEEP: now[base + v] = valueAt(leftOp[i]); break;
                    case PARAMETER:
                        now[base + v] = valueOf[i];
                        fillStep(program, flow, b, i);
                        break;
                    default: fillStep(program, flow, b, i);
                }
            }
        }

        private void fillStep(Program program, Flow flow, int b, int i) {
            int op = program.op[i];
            int left = valueAt(leftOp[i]);
            if (op == RETURN || op == SKIP_IF_ZERO || op == SKIP_IF_SET) {
                flow.endValue[b] = left;
            } else if (op <= PARAMETER) {
                boolean isPlain = op == NUMBER || op == CALL || op == PARAMETER;
                int gives = givesValue(op) ? valueOf[i] : NONE;
                flow.addStep(b, op, gives, isPlain ? program.argument[i] : left, valueAt(rightOp[i]));
            }
        }

        private void fillPhis(Flow flow) {
            for (int b = 0; b < flow.blocks; b++) {
                for (int phi = flow.firstPhi[b]; phi >= 0; phi = flow.phiNext[phi]) {
                    for (int place = 0; place < flow.waysTo(b); place++) {
                        int from = flow.wayFrom(b, place);
                        flow.setTake(phi, from, now[from * MOST_VARIABLES + phiVariable[phi]]);
                    }
                }
            }
        }
    }

    /** The passes over the blocks of one function. */
    private static final class Passes {
        private static final int UNKNOWN = 0;
        private static final int KNOWN = 1;
        private static final int VARIES = 2;

        private final Shape shape;
        // Of each value: the step that gives it, if a step does, and the block in which it is given.
        private final int[] giver = new int[MOST_VALUES];
        private final int[] home = new int[MOST_VALUES];
        private final int[] state = new int[MOST_VALUES];
        private final int[] number = new int[MOST_VALUES];
        private final int[] standIn = new int[MOST_VALUES];
        private final int[] marks = new int[MOST_VALUES];
        private long reached;
        private final int[] seenStep = new int[MOST_VALUES];
        private final int[] seenBlock = new int[MOST_VALUES];
        private int seen;
        private final int[] path = new int[MOST_BLOCKS];

        Passes(Shape shape) {
            this.shape = shape;
        }

        private void findGivers(Flow flow) {
            Arrays.fill(giver, NONE);
            Arrays.fill(home, NONE);
            for (int b = 0; b < flow.blocks; b++) {
                for (int phi = flow.firstPhi[b]; phi >= 0; phi = flow.phiNext[phi]) {
                    home[flow.phiGives[phi]] = b;
                }
                for (int s = flow.firstStep[b]; s >= 0; s = flow.steps.next[s]) {
                    int value = flow.steps.gives[s];
                    if (value >= 0) {
                        giver[value] = s;
                        home[value] = b;
                    }
                }
            }
        }

        private boolean isNumber(Flow flow, int value) {
            return giver[value] >= 0 && flow.steps.kind[giver[value]] == NUMBER;
        }

        private int numberOf(Flow flow, int value) {
            return flow.steps.left[giver[value]];
        }

        private boolean isNumber(Flow flow, int value, int wanted) {
            return isNumber(flow, value) && numberOf(flow, value) == wanted;
        }

        private boolean mayFail(Flow flow, int s) {
            int kind = flow.steps.kind[s];
            if (kind != DIVIDE && kind != REST) {
                return false;
            }
            int right = flow.steps.right[s];
            return !isNumber(flow, right) || numberOf(flow, right) == 0;
        }

        // ---- fold

        int foldNumbers(Flow flow) {
            Arrays.fill(state, UNKNOWN);
            reached = 1L;
            boolean learns = true;
            for (int n = 0; learns && n < MANY; n++) {
                learns = false;
                for (int b = 0; b < flow.blocks; b++) {
                    if (holds(reached, b) && learnBlock(flow, b)) {
                        learns = true;
                    }
                }
            }
            int changes = 0;
            for (int b = 0; b < flow.blocks; b++) {
                if (holds(reached, b)) {
                    changes += foldBlock(flow, b);
                }
            }
            if (changes > 0) {
                shape.renumber(flow);
            }
            return changes;
        }

        private boolean learnBlock(Flow flow, int b) {
            boolean learns = false;
            for (int phi = flow.firstPhi[b]; phi >= 0; phi = flow.phiNext[phi]) {
                learns = learnPhi(flow, b, phi) || learns;
            }
            for (int s = flow.firstStep[b]; s >= 0; s = flow.steps.next[s]) {
                if (flow.steps.gives[s] >= 0) {
                    learns = learnStep(flow.steps, s) || learns;
                }
            }
            long before = reached;
            if (flow.first[b] >= 0 && isWay(flow, b, flow.first[b])) {
                reached |= 1L << flow.first[b];
            }
            if (flow.second[b] >= 0 && isWay(flow, b, flow.second[b])) {
                reached |= 1L << flow.second[b];
            }
            return learns || reached != before;
        }

        private boolean learnPhi(Flow flow, int b, int phi) {
            boolean learns = false;
            for (int place = 0; place < flow.waysTo(b); place++) {
                int from = flow.wayFrom(b, place);
                int value = flow.take(phi, from);
                if (isWay(flow, from, b) && state[value] != UNKNOWN) {
                    learns = learn(flow.phiGives[phi], state[value], number[value]) || learns;
                }
            }
            return learns;
        }

        private boolean learnStep(Steps steps, int s) {
            int kind = steps.kind[s];
            int gives = steps.gives[s];
            if (kind == NUMBER) {
                return learn(gives, KNOWN, steps.left[s]);
            }
            if (!isOperator(kind)) {
                return learn(gives, VARIES, 0);
            }
            int x = steps.left[s];
            int y = steps.right[s];
            boolean isByZero = state[y] == KNOWN && isFailing(kind, number[y]);
            if (state[x] == VARIES || state[y] == VARIES || isByZero) {
                return learn(gives, VARIES, 0);
            }
            if (state[x] == UNKNOWN || state[y] == UNKNOWN) {
                return false;
            }
            return learn(gives, KNOWN, compute(kind, number[x], number[y]));
        }

        /** What is known goes from nothing to a number, and from one number to varying by another one. */
        private boolean learn(int value, int newState, int newNumber) {
            if (state[value] == VARIES) {
                return false;
            }
            if (state[value] == UNKNOWN) {
                state[value] = newState;
                number[value] = newNumber;
                return true;
            }
            if (newState == KNOWN && number[value] == newNumber) {
                return false;
            }
            state[value] = VARIES;
            return true;
        }

        private boolean isWay(Flow flow, int from, int to) {
            if (!holds(reached, from)) {
                return false;
            }
            if (flow.end[from] != FORK) {
                return true;
            }
            int value = flow.endValue[from];
            if (state[value] != KNOWN) {
                return state[value] == VARIES;
            }
            return (number[value] != 0 ? flow.first[from] : flow.second[from]) == to;
        }

        private int foldBlock(Flow flow, int b) {
            int changes = 0;
            int then;
            int chain = flow.takeSteps(b);
            for (int phi = flow.takePhis(b); phi >= 0; phi = then) {
                then = flow.phiNext[phi];
                int value = flow.phiGives[phi];
                if (state[value] == KNOWN) {
                    flow.addStep(b, NUMBER, value, number[value], NONE);
                    changes++;
                } else {
                    flow.linkPhi(b, phi);
                }
            }
            for (int s = chain; s >= 0; s = then) {
                then = flow.steps.next[s];
                if (isOperator(flow.steps.kind[s]) && state[flow.steps.gives[s]] == KNOWN) {
                    becomeNumber(flow.steps, s, number[flow.steps.gives[s]]);
                    changes++;
                }
                flow.link(b, s);
            }
            return changes + foldEnd(flow, b);
        }

        private int foldEnd(Flow flow, int b) {
            if (flow.end[b] != FORK || state[flow.endValue[b]] != KNOWN) {
                return 0;
            }
            flow.end[b] = GO;
            flow.first[b] = number[flow.endValue[b]] != 0 ? flow.first[b] : flow.second[b];
            flow.second[b] = NONE;
            flow.endValue[b] = NONE;
            return 1;
        }

        private static void becomeNumber(Steps steps, int s, int n) {
            steps.kind[s] = NUMBER;
            steps.left[s] = n;
            steps.right[s] = NONE;
        }

        // ---- same

        int joinEquals(Flow flow) {
            findGivers(flow);
            Arrays.fill(standIn, NONE);
            Arrays.fill(marks, 0);
            seen = 0;
            int top = 1;
            path[0] = 0;
            for (int n = 0; top > 0 && n < MOST_BLOCKS; n++) {
                top--;
                int b = path[top];
                joinBlock(flow, b);
                for (int below = flow.blocks - 1; below > 0; below--) {
                    if (flow.dominator[below] == b) {
                        path[top] = below;
                        top++;
                    }
                }
            }
            int changes = 0;
            for (int value = 0; value < flow.limit; value++) {
                changes += standIn[value] >= 0 || marks[value] != 0 ? 1 : 0;
                marks[value] = standIn[value] >= 0 ? 1 : 0;
            }
            flow.leaveOut(marks);
            useStandIns(flow);
            return changes;
        }

        private int standInOf(int value) {
            int other = value;
            for (int n = 0; n < MOST_VALUES && standIn[other] >= 0; n++) {
                other = standIn[other];
            }
            return other;
        }

        private void useStandIns(Flow flow) {
            Steps steps = flow.steps;
            for (int b = 0; b < flow.blocks; b++) {
                for (int phi = flow.firstPhi[b]; phi >= 0; phi = flow.phiNext[phi]) {
                    for (int place = 0; place < flow.waysTo(b); place++) {
                        int from = flow.wayFrom(b, place);
                        flow.setTake(phi, from, standInOf(flow.take(phi, from)));
                    }
                }
                for (int s = flow.firstStep[b]; s >= 0; s = steps.next[s]) {
                    if (usesLeft(steps.kind[s])) {
                        steps.left[s] = standInOf(steps.left[s]);
                    }
                    if (usesRight(steps.kind[s])) {
                        steps.right[s] = standInOf(steps.right[s]);
                    }
                }
                if (flow.endValue[b] >= 0) {
                    flow.endValue[b] = standInOf(flow.endValue[b]);
                }
            }
        }

        private void joinBlock(Flow flow, int b) {
            for (int phi = flow.firstPhi[b]; phi >= 0; phi = flow.phiNext[phi]) {
                joinPhi(flow, b, phi);
            }
            for (int s = flow.firstStep[b]; s >= 0; s = flow.steps.next[s]) {
                int gives = flow.steps.gives[s];
                if (isOperator(flow.steps.kind[s])) {
                    joinOperator(flow, s);
                }
                if (gives >= 0 && flow.steps.kind[s] <= UNEQUAL && standIn[gives] < 0) {
                    joinSeen(flow, b, s);
                }
            }
        }

        private void joinPhi(Flow flow, int b, int phi) {
            int gives = flow.phiGives[phi];
            int only = onlyTake(flow, b, phi);
            if (only >= 0) {
                standIn[gives] = only;
                return;
            }
            for (int other = flow.firstPhi[b]; other >= 0 && other != phi; other = flow.phiNext[other]) {
                if (standIn[flow.phiGives[other]] < 0 && takeAlike(flow, b, other, phi)) {
                    standIn[gives] = flow.phiGives[other];
                    return;
                }
            }
        }

        private int onlyTake(Flow flow, int b, int phi) {
            int only = NONE;
            for (int place = 0; place < flow.waysTo(b); place++) {
                int value = standInOf(flow.take(phi, flow.wayFrom(b, place)));
                if (value != flow.phiGives[phi] && value != only) {
                    if (only >= 0) {
                        return NONE;
                    }
                    only = value;
                }
            }
            return only;
        }

        private boolean takeAlike(Flow flow, int b, int phi, int other) {
            for (int place = 0; place < flow.waysTo(b); place++) {
                int from = flow.wayFrom(b, place);
                if (standInOf(flow.take(phi, from)) != standInOf(flow.take(other, from))) {
                    return false;
                }
            }
            return true;
        }

        private void joinOperator(Flow flow, int s) {
            Steps steps = flow.steps;
            int kind = steps.kind[s];
            int gives = steps.gives[s];
            int x = standInOf(steps.left[s]);
            int y = standInOf(steps.right[s]);
            steps.left[s] = x;
            steps.right[s] = y;
            if (isNumber(flow, x) && isNumber(flow, y) && !isFailing(kind, numberOf(flow, y))) {
                marks[gives] = 1;
                becomeNumber(steps, s, compute(kind, numberOf(flow, x), numberOf(flow, y)));
            } else if (isLeftAlone(flow, kind, x, y)) {
                standIn[gives] = x;
            } else if (isRightAlone(flow, kind, x, y)) {
                standIn[gives] = y;
            } else if (isAlwaysZero(flow, kind, x, y)) {
                marks[gives] = 1;
                becomeNumber(steps, s, 0);
            } else if (x == y && (kind == EQUAL || kind == AT_MOST || kind == AT_LEAST)) {
                marks[gives] = 1;
                becomeNumber(steps, s, 1);
            } else if (x > y && isEitherWay(kind)) {
                steps.left[s] = y;
                steps.right[s] = x;
            }
        }

        private boolean isLeftAlone(Flow flow, int kind, int x, int y) {
            switch (kind) {
                case PLUS:
                case MINUS:
                case XOR:
                case SHIFT_LEFT:
                case SHIFT_RIGHT: return isNumber(flow, y, 0);
                case OR: return isNumber(flow, y, 0) || x == y;
                case AND: return x == y;
                case TIMES:
                case DIVIDE: return isNumber(flow, y, 1);
                default: return false;
            }
        }

        private boolean isRightAlone(Flow flow, int kind, int x, int y) {
            if (kind == PLUS || kind == OR || kind == XOR) {
                return isNumber(flow, x, 0);
            }
            return kind == TIMES && isNumber(flow, x, 1);
        }

        private boolean isAlwaysZero(Flow flow, int kind, int x, int y) {
            switch (kind) {
                case TIMES:
                case AND: return isNumber(flow, x, 0) || isNumber(flow, y, 0);
                case REST: return isNumber(flow, y, 1);
                case MINUS:
                case XOR:
                case UNEQUAL:
                case LESS:
                case MORE: return x == y;
                default: return false;
            }
        }

        private static boolean isEitherWay(int kind) {
            return kind == PLUS || kind == TIMES || kind == AND || kind == OR || kind == XOR
                || kind == EQUAL || kind == UNEQUAL;
        }

        private void joinSeen(Flow flow, int b, int s) {
            Steps steps = flow.steps;
            for (int n = 0; n < seen; n++) {
                int other = seenStep[n];
                boolean isAlike = steps.kind[other] == steps.kind[s]
                    && steps.left[other] == steps.left[s] && steps.right[other] == steps.right[s];
                if (isAlike && holds(flow.dominators[b], seenBlock[n])) {
                    standIn[steps.gives[s]] = steps.gives[other];
                    return;
                }
            }
            if (seen < MOST_VALUES) {
                seenStep[seen] = s;
                seenBlock[seen] = b;
                seen++;
            }
        }

        // ---- drop

        int dropUnwanted(Flow flow) {
            findGivers(flow);
            Arrays.fill(marks, 1);
            boolean grows = true;
            for (int n = 0; grows && n < MANY; n++) {
                grows = false;
                for (int b = flow.blocks - 1; b >= 0; b--) {
                    if (wantInBlock(flow, b)) {
                        grows = true;
                    }
                }
            }
            keepUndroppable(flow);
            int before = flow.countValues();
            flow.leaveOut(marks);
            return before - flow.countValues();
        }

        private boolean wantInBlock(Flow flow, int b) {
            boolean grows = flow.endValue[b] >= 0 && want(flow.endValue[b]);
            Steps steps = flow.steps;
            for (int s = flow.firstStep[b]; s >= 0; s = steps.next[s]) {
                int kind = steps.kind[s];
                if (kind == WRITE || kind == ARGUMENT || mayFail(flow, s)) {
                    grows = wantUsed(steps, s) || grows;
                }
                if (steps.gives[s] >= 0 && mayFail(flow, s)) {
                    grows = want(steps.gives[s]) || grows;
                }
                if (steps.gives[s] >= 0 && marks[steps.gives[s]] == 0) {
                    grows = wantUsed(steps, s) || grows;
                }
            }
            for (int phi = flow.firstPhi[b]; phi >= 0; phi = flow.phiNext[phi]) {
                if (marks[flow.phiGives[phi]] == 0) {
                    for (int place = 0; place < flow.waysTo(b); place++) {
                        grows = want(flow.take(phi, flow.wayFrom(b, place))) || grows;
                    }
                }
            }
            return grows;
        }

        private boolean wantUsed(Steps steps, int s) {
            boolean grows = usesLeft(steps.kind[s]) && want(steps.left[s]);
            return usesRight(steps.kind[s]) && want(steps.right[s]) || grows;
        }

        /** Takes the mark of what is to be left out from a value, and returns whether it had it. */
        private boolean want(int value) {
            boolean isNew = marks[value] != 0;
            marks[value] = 0;
            return isNew;
        }

        // A call stays, whether its value is wanted or not.
        private void keepUndroppable(Flow flow) {
            for (int b = 0; b < flow.blocks; b++) {
                for (int s = flow.firstStep[b]; s >= 0; s = flow.steps.next[s]) {
                    if (flow.steps.kind[s] == CALL) {
                        want(flow.steps.gives[s]);
                    }
                }
            }
        }

        // ---- lift

        int liftFromLoops(Flow flow) {
            findGivers(flow);
            int moves = 0;
            for (int head = flow.blocks - 1; head >= 0; head--) {
                int ahead = flow.loop[head] == 0 ? NONE : blockAhead(flow, head);
                if (ahead >= 0) {
                    for (int b = 0; b < flow.blocks; b++) {
                        if (holds(flow.loop[head], b)) {
                            moves += liftBlock(flow, b, flow.loop[head], ahead);
                        }
                    }
                }
            }
            return moves;
        }

        private static int blockAhead(Flow flow, int head) {
            int ahead = NONE;
            for (int place = 0; place < flow.waysTo(head); place++) {
                int from = flow.wayFrom(head, place);
                if (!holds(flow.loop[head], from)) {
                    if (ahead >= 0) {
                        return NONE;
                    }
                    ahead = from;
                }
            }
            return ahead >= 0 && flow.end[ahead] == GO ? ahead : NONE;
        }

        private int liftBlock(Flow flow, int b, long loop, int ahead) {
            int moves = 0;
            int then;
            for (int s = flow.takeSteps(b); s >= 0; s = then) {
                then = flow.steps.next[s];
                if (mayLift(flow, s, loop)) {
                    flow.link(ahead, s);
                    home[flow.steps.gives[s]] = ahead;
                    moves++;
                } else {
                    flow.link(b, s);
                }
            }
            return moves;
        }

        private boolean mayLift(Flow flow, int s, long loop) {
            int kind = flow.steps.kind[s];
            if (kind == NUMBER) {
                return true;
            }
            return isOperator(kind) && !mayFail(flow, s)
                && !holds(loop, home[flow.steps.left[s]]) && !holds(loop, home[flow.steps.right[s]]);
        }

        // ---- merge

        int mergeBlocks(Flow flow) {
            Arrays.fill(standIn, NONE);
            int merged = 0;
            reached = (1L << flow.blocks) - 1;
            boolean found = true;
            for (int n = 0; found && n <= MOST_BLOCKS; n++) {
                int b = mergeable(flow);
                found = b >= 0;
                if (found) {
                    mergeInto(flow, b, flow.first[b]);
                    merged++;
                }
            }
            if (merged > 0) {
                shape.renumber(flow);
                useStandIns(flow);
            }
            return merged;
        }

        // Merging never changes how many ways lead to a block that stays.
        private int mergeable(Flow flow) {
            for (int b = 0; b < flow.blocks; b++) {
                if (holds(reached, b) && flow.end[b] == GO) {
                    int to = flow.first[b];
                    if (to != b && flow.waysTo(to) == 1) {
                        return b;
                    }
                }
            }
            return NONE;
        }

        private void mergeInto(Flow flow, int b, int gone) {
            int from = flow.wayFrom(gone, 0);
            for (int phi = flow.takePhis(gone); phi >= 0; phi = flow.phiNext[phi]) {
                standIn[flow.phiGives[phi]] = flow.take(phi, from);
            }
            int then;
            for (int s = flow.takeSteps(gone); s >= 0; s = then) {
                then = flow.steps.next[s];
                flow.link(b, s);
            }
            flow.end[b] = flow.end[gone];
            flow.endValue[b] = flow.endValue[gone];
            flow.first[b] = flow.first[gone];
            flow.second[b] = flow.second[gone];
            reached &= ~(1L << gone);
            takeFrom(flow, flow.first[b], gone, b);
            takeFrom(flow, flow.second[b], gone, b);
        }

        private static void takeFrom(Flow flow, int block, int before, int now) {
            if (block >= 0) {
                for (int phi = flow.firstPhi[block]; phi >= 0; phi = flow.phiNext[phi]) {
                    flow.setTake(phi, now, flow.take(phi, before));
                }
            }
        }
    }

    /**
     * Which values are neighbours, and the colouring of them. Values from `homes` on were made when others were
     * put away: each of these lives from one step to the next one or the one behind it, so it never crosses the
     * end of a block, and at most one other of its sort is its neighbour, its mate.
     */
    private static final class Graph {
        private static final int FIRST_ROOM = 64;
        private static final int TAKEN = -1;
        // Of the values that were made when others were put away at most two live at once.
        private static final int MOST_GUESTS = 2;

        int homes;
        int values;
        private int width;
        // Rows of sets of homes, for each block: used ahead of being given, given, live at the beginning.
        private long[] uses = new long[FIRST_ROOM];
        private long[] givenIn = new long[FIRST_ROOM];
        private long[] liveIn = new long[FIRST_ROOM];
        private long[] live = new long[1];
        private final int[] liveGuests = new int[MOST_GUESTS];
        private int guests;
        private int[] chain = new int[FIRST_ROOM];
        // For each value the set of homes that are its neighbours.
        private long[] near = new long[FIRST_ROOM];
        private int[] mate = new int[FIRST_ROOM];
        private int[] degree = new int[FIRST_ROOM];
        private long[] cost = new long[FIRST_ROOM];
        int[] givers = new int[FIRST_ROOM];
        int[] giver = new int[FIRST_ROOM];
        int[] register = new int[FIRST_ROOM];
        // How many neighbours are left, and the order in which values were taken away.
        private int[] left = new int[FIRST_ROOM];
        private int[] order = new int[FIRST_ROOM];

        // ---- neighbours

        void reckon(Flow flow, int homeCount, int valueCount) {
            homes = homeCount;
            values = valueCount;
            width = homes + 63 >> 6;
            makeRoom(flow.blocks);
            for (int b = 0; b < flow.blocks; b++) {
                noteBlock(flow, b);
            }
            spreadLife(flow);
            Arrays.fill(near, 0, values * width, 0L);
            Arrays.fill(mate, 0, values, NONE);
            for (int b = 0; b < flow.blocks; b++) {
                meetInBlock(flow, b);
            }
            mirror();
            countDegrees();
        }

        private void makeRoom(int blocks) {
            uses = atLeast(uses, blocks * width);
            givenIn = atLeast(givenIn, blocks * width);
            liveIn = atLeast(liveIn, blocks * width);
            live = atLeast(live, width);
            near = atLeast(near, values * width);
            mate = atLeast(mate, values);
            degree = atLeast(degree, values);
            cost = atLeast(cost, values);
            givers = atLeast(givers, values);
            giver = atLeast(giver, values);
            register = atLeast(register, values);
            left = atLeast(left, values);
            order = atLeast(order, values);
        }

        private void noteBlock(Flow flow, int b) {
            Arrays.fill(uses, b * width, (b + 1) * width, 0L);
            Arrays.fill(givenIn, b * width, (b + 1) * width, 0L);
            Steps steps = flow.steps;
            for (int s = flow.firstStep[b]; s >= 0; s = steps.next[s]) {
                if (usesLeft(steps.kind[s])) {
                    noteUse(b, steps.left[s]);
                }
                if (usesRight(steps.kind[s])) {
                    noteUse(b, steps.right[s]);
                }
                if (steps.gives[s] >= 0 && steps.gives[s] < homes) {
                    put(givenIn, b, steps.gives[s]);
                }
            }
            if (flow.endValue[b] >= 0) {
                noteUse(b, flow.endValue[b]);
            }
        }

        private void noteUse(int b, int value) {
            if (value < homes && !isIn(givenIn, b, value)) {
                put(uses, b, value);
            }
        }

        private void put(long[] rows, int row, int home) {
            rows[row * width + (home >> 6)] |= 1L << (home & 63);
        }

        private boolean isIn(long[] rows, int row, int home) {
            return holds(rows[row * width + (home >> 6)], home & 63);
        }

        private void spreadLife(Flow flow) {
            System.arraycopy(uses, 0, liveIn, 0, flow.blocks * width);
            boolean grows = true;
            for (int n = 0; grows && n < MANY; n++) {
                grows = false;
                for (int b = flow.blocks - 1; b >= 0; b--) {
                    boolean isMore = spreadInto(flow.first[b], b);
                    grows = spreadInto(flow.second[b], b) || isMore || grows;
                }
            }
        }

        private boolean spreadInto(int behind, int b) {
            if (behind < 0) {
                return false;
            }
            boolean grows = false;
            for (int w = 0; w < width; w++) {
                long more = liveIn[behind * width + w] & ~givenIn[b * width + w] & ~liveIn[b * width + w];
                liveIn[b * width + w] |= more;
                grows = grows || more != 0;
            }
            return grows;
        }

        /** Goes through a block from its end to its beginning, and makes neighbours of what lives together. */
        private void meetInBlock(Flow flow, int b) {
            Arrays.fill(live, 0L);
            guests = 0;
            addLiveIn(flow.first[b]);
            addLiveIn(flow.second[b]);
            if (flow.endValue[b] >= 0) {
                addLive(flow.endValue[b]);
            }
            Steps steps = flow.steps;
            for (int n = listSteps(flow, b) - 1; n >= 0; n--) {
                int s = chain[n];
                int kind = steps.kind[s];
                if (steps.gives[s] >= 0) {
                    meet(steps.gives[s], kind == COPY ? steps.left[s] : NONE);
                    removeLive(steps.gives[s]);
                }
                if (usesLeft(kind)) {
                    addLive(steps.left[s]);
                }
                if (usesRight(kind)) {
                    addLive(steps.right[s]);
                }
            }
        }

        private int listSteps(Flow flow, int b) {
            int count = 0;
            for (int s = flow.firstStep[b]; s >= 0; s = flow.steps.next[s]) {
                chain = atLeast(chain, count + 1);
                chain[count] = s;
                count++;
            }
            return count;
        }

        private void addLiveIn(int block) {
            if (block >= 0) {
                for (int w = 0; w < width; w++) {
                    live[w] |= liveIn[block * width + w];
                }
            }
        }

        private void addLive(int value) {
            if (value < homes) {
                put(live, 0, value);
                return;
            }
            for (int n = 0; n < guests; n++) {
                if (liveGuests[n] == value) {
                    return;
                }
            }
            if (guests < liveGuests.length) {
                liveGuests[guests] = value;
                guests++;
            }
        }

        private void removeLive(int value) {
            if (value < homes) {
                live[value >> 6] &= ~(1L << (value & 63));
                return;
            }
            for (int n = 0; n < guests; n++) {
                if (liveGuests[n] == value) {
                    guests--;
                    liveGuests[n] = liveGuests[guests];
                    return;
                }
            }
        }

        private void meet(int given, int copied) {
            for (int w = 0; w < width; w++) {
                near[given * width + w] |= live[w] & ~bitIn(w, given) & ~bitIn(w, copied);
            }
            for (int n = 0; n < guests; n++) {
                int guest = liveGuests[n];
                if (guest != given && guest != copied) {
                    if (given < homes) {
                        put(near, guest, given);
                    } else {
                        mate[given] = guest;
                        mate[guest] = given;
                    }
                }
            }
        }

        private long bitIn(int word, int value) {
            return value >= 0 && value < homes && value >> 6 == word ? 1L << (value & 63) : 0L;
        }

        private void mirror() {
            for (int home = 0; home < homes; home++) {
                for (int w = 0; w < width; w++) {
                    for (long rest = near[home * width + w]; rest != 0; rest &= rest - 1) {
                        put(near, w * 64 + lowest(rest), home);
                    }
                }
            }
        }

        private void countDegrees() {
            for (int value = 0; value < values; value++) {
                degree[value] = mate[value] >= 0 ? 1 : 0;
                for (int w = 0; w < width; w++) {
                    degree[value] += Long.bitCount(near[value * width + w]);
                }
            }
            for (int guest = homes; guest < values; guest++) {
                for (int w = 0; w < width; w++) {
                    for (long rest = near[guest * width + w]; rest != 0; rest &= rest - 1) {
                        degree[w * 64 + lowest(rest)]++;
                    }
                }
            }
        }

        /** Whether two homes may be united: strangers, with fewer than so many hard neighbours together. */
        boolean mayUnite(int one, int other, int registers) {
            if (one >= homes || other >= homes || isIn(near, one, other)) {
                return false;
            }
            int hard = 0;
            for (int w = 0; w < width; w++) {
                for (long rest = near[one * width + w] | near[other * width + w]; rest != 0; rest &= rest - 1) {
                    hard += degree[w * 64 + lowest(rest)] >= registers ? 1 : 0;
                }
            }
            for (int guest = homes; guest < values; guest++) {
                if (degree[guest] >= registers && (isIn(near, guest, one) || isIn(near, guest, other))) {
                    hard++;
                }
            }
            return hard < registers;
        }

        // ---- colouring

        /** Gives registers to all values that find one, and returns whether all do. */
        boolean colour(Flow flow, int registers) {
            weigh(flow);
            int count = 0;
            for (int value = 0; value < values; value++) {
                left[value] = givers[value] > 0 ? degree[value] : TAKEN;
                register[value] = NONE;
                count += givers[value] > 0 ? 1 : 0;
            }
            for (int n = 0; n < count; n++) {
                order[n] = nextToTake(registers);
                takeAway(order[n]);
            }
            boolean haveAll = true;
            for (int n = count - 1; n >= 0; n--) {
                register[order[n]] = freeRegister(order[n], registers);
                haveAll = haveAll && register[order[n]] >= 0;
            }
            return haveAll;
        }

        private void weigh(Flow flow) {
            Arrays.fill(cost, 0, values, 0L);
            Arrays.fill(givers, 0, values, 0);
            Steps steps = flow.steps;
            for (int b = 0; b < flow.blocks; b++) {
                long weight = 1L << 3 * Math.min(flow.depth[b], 4);
                for (int s = flow.firstStep[b]; s >= 0; s = steps.next[s]) {
                    boolean isLeftUsed = usesLeft(steps.kind[s]);
                    if (isLeftUsed) {
                        cost[steps.left[s]] += weight;
                    }
                    if (usesRight(steps.kind[s]) && steps.right[s] != steps.left[s]) {
                        cost[steps.right[s]] += weight;
                    }
                    if (steps.gives[s] >= 0) {
                        cost[steps.gives[s]] += weight;
                        givers[steps.gives[s]]++;
                        giver[steps.gives[s]] = s;
                    }
                }
                if (flow.endValue[b] >= 0) {
                    cost[flow.endValue[b]] += weight;
                }
            }
        }

        private int nextToTake(int registers) {
            int cheapest = NONE;
            for (int value = 0; value < values; value++) {
                if (left[value] != TAKEN && left[value] < registers) {
                    return value;
                }
                if (left[value] != TAKEN && (value < homes || cheapest < 0 || cheapest >= homes)) {
                    if (cheapest < 0 || cost[value] * left[cheapest] < cost[cheapest] * left[value]) {
                        cheapest = value;
                    }
                }
            }
            return cheapest;
        }

        private void takeAway(int value) {
            left[value] = TAKEN;
            for (int w = 0; w < width; w++) {
                for (long rest = near[value * width + w]; rest != 0; rest &= rest - 1) {
                    lowerLeft(w * 64 + lowest(rest));
                }
            }
            if (mate[value] >= 0) {
                lowerLeft(mate[value]);
            }
            if (value < homes) {
                for (int guest = homes; guest < values; guest++) {
                    if (isIn(near, guest, value)) {
                        lowerLeft(guest);
                    }
                }
            }
        }

        private void lowerLeft(int value) {
            if (left[value] != TAKEN) {
                left[value]--;
            }
        }

        private int freeRegister(int value, int registers) {
            int used = 0;
            for (int w = 0; w < width; w++) {
                for (long rest = near[value * width + w]; rest != 0; rest &= rest - 1) {
                    used |= registerBit(w * 64 + lowest(rest));
                }
            }
            if (mate[value] >= 0) {
                used |= registerBit(mate[value]);
            }
            if (value < homes) {
                for (int guest = homes; guest < values; guest++) {
                    if (isIn(near, guest, value)) {
                        used |= registerBit(guest);
                    }
                }
            }
            for (int r = 0; r < registers; r++) {
                if ((used >> r & 1) == 0) {
                    return r;
                }
            }
            return NONE;
        }

        private int registerBit(int value) {
            return register[value] < 0 ? 0 : 1 << register[value];
        }
    }

    /** Makes code out of blocks. */
    private static final class Allocator {
        private static final int FIRST_ROOM = 256;
        private static final int STAYS = -1;
        private static final int NO_SLOT = -2;

        final Flow work = new Flow();
        final Steps[] code = new Steps[MOST_FUNCTIONS];
        final int[] slotCounts = new int[MOST_FUNCTIONS];
        final int[] unitedCounts = new int[MOST_FUNCTIONS];
        final int[] roundCounts = new int[MOST_FUNCTIONS];
        boolean hasCode;
        private final Graph graph = new Graph();
        private int registers;
        // How many numbers values have; those below homes were not made when others were put away.
        private int values;
        private int homes;
        private int slotCount;
        private int unitedCount;
        // Of each value, in the round in which it is put away: its slot, or its number.
        private int[] slot = new int[FIRST_ROOM];
        private int[] number = new int[FIRST_ROOM];
        private final int[] copyTo = new int[MOST_VALUES];
        private final int[] copyFrom = new int[MOST_VALUES];
        private final int[] lineOf = new int[MOST_BLOCKS + 1];

        Allocator() {
            for (int f = 0; f < MOST_FUNCTIONS; f++) {
                code[f] = new Steps(FIRST_ROOM);
            }
        }

        /** Returns how many lines all functions have, or -1 without code. */
        int makeCode(Flow[] flows, int functions, int registerCount) {
            registers = registerCount;
            hasCode = false;
            int all = 0;
            for (int f = 0; f < functions; f++) {
                int roundCount = makeFunction(flows[f]);
                if (roundCount == 0) {
                    return NONE;
                }
                roundCounts[f] = roundCount;
                slotCounts[f] = slotCount;
                unitedCounts[f] = unitedCount;
                writeCode(code[f]);
                all += code[f].count;
            }
            hasCode = true;
            return all;
        }

        /** Returns how many rounds it took to find registers; 0 if too many. */
        private int makeFunction(Flow flow) {
            work.copyFrom(flow);
            values = work.limit;
            for (int b = 0; b < work.blocks; b++) {
                for (int place = 0; place < work.waysTo(b); place++) {
                    putCopies(b, work.wayFrom(b, place));
                }
                work.takePhis(b);
            }
            homes = values;
            slotCount = 0;
            unitedCount = 0;
            for (int round = 1; round <= MOST_ROUNDS; round++) {
                graph.reckon(work, homes, values);
                for (int n = 0; n < MANY && uniteFirst(); n++) {
                    unitedCount++;
                    graph.reckon(work, homes, values);
                }
                if (graph.colour(work, registers)) {
                    return round;
                }
                putAway();
            }
            return 0;
        }

        // ---- copies

        private void putCopies(int b, int from) {
            int count = 0;
            for (int phi = work.firstPhi[b]; phi >= 0; phi = work.phiNext[phi]) {
                int value = work.take(phi, from);
                if (value != work.phiGives[phi] && count < MOST_VALUES) {
                    copyTo[count] = work.phiGives[phi];
                    copyFrom[count] = value;
                    count++;
                }
            }
            // Of two moves at least one puts a copy.
            for (int n = 0; count > 0 && n < 2 * MOST_VALUES; n++) {
                int free = firstFree(count);
                if (free >= 0) {
                    work.addStep(from, COPY, copyTo[free], copyFrom[free], NONE);
                    count--;
                    for (int k = free; k < count; k++) {
                        copyTo[k] = copyTo[k + 1];
                        copyFrom[k] = copyFrom[k + 1];
                    }
                } else {
                    saveFirst(from, count);
                }
            }
        }

        private int firstFree(int count) {
            for (int n = 0; n < count; n++) {
                boolean isTaken = false;
                for (int k = 0; k < count; k++) {
                    isTaken = isTaken || copyFrom[k] == copyTo[n];
                }
                if (!isTaken) {
                    return n;
                }
            }
            return NONE;
        }

        private void saveFirst(int from, int count) {
            int saved = copyTo[0];
            work.addStep(from, COPY, values, saved, NONE);
            for (int k = 0; k < count; k++) {
                if (copyFrom[k] == saved) {
                    copyFrom[k] = values;
                }
            }
            values++;
        }

        // ---- uniting

        private boolean uniteFirst() {
            for (int b = 0; b < work.blocks; b++) {
                for (int s = work.firstStep[b]; s >= 0; s = work.steps.next[s]) {
                    if (work.steps.kind[s] == COPY) {
                        int one = work.steps.gives[s];
                        int other = work.steps.left[s];
                        if (graph.mayUnite(one, other, registers)) {
                            unite(Math.min(one, other), Math.max(one, other));
                            return true;
                        }
                    }
                }
            }
            return false;
        }

        private void unite(int stays, int goes) {
            Steps steps = work.steps;
            for (int b = 0; b < work.blocks; b++) {
                int then;
                for (int s = work.takeSteps(b); s >= 0; s = then) {
                    then = steps.next[s];
                    if (steps.gives[s] == goes) {
                        steps.gives[s] = stays;
                    }
                    if (usesLeft(steps.kind[s]) && steps.left[s] == goes) {
                        steps.left[s] = stays;
                    }
                    if (usesRight(steps.kind[s]) && steps.right[s] == goes) {
                        steps.right[s] = stays;
                    }
                    if (steps.kind[s] != COPY || steps.gives[s] != steps.left[s]) {
                        work.link(b, s);
                    }
                }
                if (work.endValue[b] == goes) {
                    work.endValue[b] = stays;
                }
            }
        }

        // ---- putting away

        private void putAway() {
            int count = values;
            slot = atLeast(slot, count);
            number = atLeast(number, count);
            for (int value = 0; value < count; value++) {
                slot[value] = STAYS;
                if (graph.givers[value] > 0 && graph.register[value] < 0) {
                    findSlot(value);
                }
            }
            for (int b = 0; b < work.blocks; b++) {
                int then;
                for (int s = work.takeSteps(b); s >= 0; s = then) {
                    then = work.steps.next[s];
                    putAwayIn(b, s, count);
                }
                int value = work.endValue[b];
                if (value >= 0 && slot[value] != STAYS) {
                    work.endValue[b] = fetch(b, value);
                }
            }
        }

        private void findSlot(int value) {
            int giver = graph.giver[value];
            if (graph.givers[value] == 1 && work.steps.kind[giver] == NUMBER) {
                slot[value] = NO_SLOT;
                number[value] = work.steps.left[giver];
            } else {
                slot[value] = slotCount;
                slotCount++;
            }
        }

        private void putAwayIn(int b, int s, int count) {
            Steps steps = work.steps;
            int left = steps.left[s];
            if (usesLeft(steps.kind[s]) && left < count && slot[left] != STAYS) {
                // Fetching may move the rows of steps, so what it gives is kept ahead of storing it.
                int own = fetch(b, left);
                steps.left[s] = own;
                if (usesRight(steps.kind[s]) && steps.right[s] == left) {
                    steps.right[s] = own;
                }
            }
            int right = steps.right[s];
            if (usesRight(steps.kind[s]) && right < count && slot[right] != STAYS) {
                int own = fetch(b, right);
                steps.right[s] = own;
            }
            int gives = steps.gives[s];
            int place = gives < 0 ? STAYS : slot[gives];
            if (place == NO_SLOT) {
                return;
            }
            work.link(b, s);
            if (place != STAYS) {
                steps.gives[s] = values;
                work.addStep(b, STORE, NONE, values, place);
                values++;
            }
        }

        /** Puts a step that brings a value back into a new one, and returns the new one. */
        private int fetch(int b, int value) {
            if (slot[value] == NO_SLOT) {
                work.addStep(b, NUMBER, values, number[value], NONE);
            } else {
                work.addStep(b, FETCH, values, slot[value], NONE);
            }
            values++;
            return values - 1;
        }

        // ---- code

        private void writeCode(Steps lines) {
            int count = 0;
            for (int b = 0; b < work.blocks; b++) {
                lineOf[b] = count;
                for (int s = work.firstStep[b]; s >= 0; s = work.steps.next[s]) {
                    count += isIdle(s) ? 0 : 1;
                }
                count += endLines(b);
            }
            lines.count = 0;
            for (int b = 0; b < work.blocks; b++) {
                for (int s = work.firstStep[b]; s >= 0; s = work.steps.next[s]) {
                    if (!isIdle(s)) {
                        writeStep(lines, s);
                    }
                }
                writeEnd(lines, b);
            }
        }

        private boolean isIdle(int s) {
            Steps steps = work.steps;
            return steps.kind[s] == COPY && graph.register[steps.gives[s]] == graph.register[steps.left[s]];
        }

        private int endLines(int b) {
            int next = b + 1;
            if (work.end[b] == GO) {
                return work.first[b] == next ? 0 : 1;
            }
            return work.end[b] == FORK && !work.leads(b, next) ? 2 : 1;
        }

        private void writeStep(Steps lines, int s) {
            Steps steps = work.steps;
            int kind = steps.kind[s];
            int gives = steps.gives[s] < 0 ? NONE : graph.register[steps.gives[s]];
            int left = usesLeft(kind) ? graph.register[steps.left[s]] : steps.left[s];
            int right = usesRight(kind) ? graph.register[steps.right[s]] : steps.right[s];
            lines.add(kind, gives, left, right);
        }

        private void writeEnd(Steps lines, int b) {
            int next = b + 1;
            int first = work.first[b];
            int second = work.second[b];
            if (work.end[b] == GO) {
                if (first != next) {
                    lines.add(GO, NONE, lineOf[first], NONE);
                }
                return;
            }
            int value = graph.register[work.endValue[b]];
            if (work.end[b] == RETURN) {
                lines.add(RETURN, NONE, value, NONE);
            } else if (second == next) {
                lines.add(FORK, NONE, value, lineOf[first]);
            } else if (first == next) {
                lines.add(FORK_ZERO, NONE, value, lineOf[second]);
            } else {
                lines.add(FORK, NONE, value, lineOf[first]);
                lines.add(GO, NONE, lineOf[second], NONE);
            }
        }
    }

    /** Runs a program as its text, as its blocks and as its code. */
    private static final class Machine {
        // An ending is the outcome, the result, the count of steps, and the words of memory.
        static final int ENDING = 3 + WORDS;

        private static final int TEXT = 0;
        private static final int BLOCKS = 1;
        private static final int ENTERS = -2;

        int outcome;
        int result;
        int steps;
        final int[] memory = new int[WORDS];
        private Program program;
        private final Flow[] flows;
        private final Allocator allocator;
        private final int[] told = new int[MOST_PARAMETERS];
        private boolean isRunning;
        // Of each call that is open: its function, its place there, its block and the block ahead, its arguments.
        private int calls;
        private final int[] function = new int[MOST_CALLS];
        private final int[] at = new int[MOST_CALLS];
        private final int[] block = new int[MOST_CALLS];
        private final int[] blockAhead = new int[MOST_CALLS];
        private final int[] arguments = new int[MOST_CALLS * MOST_PARAMETERS];
        // Its variables, its values, or its registers; and its slots.
        private final int[] cells = new int[MOST_CALLS * MOST_VARIABLES];
        private int[] slots = new int[MOST_CALLS];
        private int slotRoom;
        // Operands of a text, arguments of the next call, or phis that get their values at once.
        private final int[] waiting = new int[MOST_OPERANDS];
        private int count;

        Machine(Program program, Flow[] flows, Allocator allocator) {
            this.program = program;
            this.flows = flows;
            this.allocator = allocator;
        }

        /** Takes a program; nothing was run then. */
        void begin(Program newProgram) {
            program = newProgram;
            outcome = 0;
            result = 0;
            steps = 0;
            Arrays.fill(memory, 0);
        }

        void tell(int a, int b, int c, int d) {
            told[0] = a;
            told[1] = b;
            told[2] = c;
            told[3] = d;
        }

        void save(int[] ending) {
            ending[0] = outcome;
            ending[1] = result;
            ending[2] = steps;
            System.arraycopy(memory, 0, ending, 3, WORDS);
        }

        void bringBack(int[] ending) {
            outcome = ending[0];
            result = ending[1];
            steps = ending[2];
            System.arraycopy(ending, 3, memory, 0, WORDS);
        }

        /** Whether two endings have the same outcome, result and memory. */
        static boolean endAlike(int[] one, int[] other) {
            for (int n = 0; n < ENDING; n++) {
                if (n != 2 && one[n] != other[n]) {
                    return false;
                }
            }
            return true;
        }

        void start(int way, int f) {
            begin(program);
            isRunning = true;
            calls = 0;
            count = 0;
            makeSlots(way);
            for (int n = 0; n < program.parameters[f]; n++) {
                push(told[n]);
            }
            enter(way, f);
            for (int n = 0; isRunning && n < MANY; n++) {
                if (way == TEXT) {
                    moveInText();
                } else if (way == BLOCKS) {
                    moveInBlocks();
                } else {
                    moveInCode();
                }
            }
        }

        private void makeSlots(int way) {
            slotRoom = 0;
            for (int f = 0; way > BLOCKS && f < program.functions; f++) {
                slotRoom = Math.max(slotRoom, allocator.slotCounts[f]);
            }
            slots = atLeast(slots, slotRoom * MOST_CALLS);
        }

        // ---- what all ways share

        /** Opens a call with the arguments that wait. */
        private void enter(int way, int f) {
            if (calls == MOST_CALLS) {
                stop(TOO_DEEP);
                return;
            }
            int call = calls;
            calls++;
            int parameters = program.parameters[f];
            for (int n = parameters - 1; n >= 0; n--) {
                arguments[call * MOST_PARAMETERS + n] = pop();
            }
            function[call] = f;
            block[call] = 0;
            blockAhead[call] = NONE;
            at[call] = way == TEXT ? program.from[f] : way == BLOCKS ? ENTERS : 0;
            Arrays.fill(cells, call * MOST_VARIABLES, (call + 1) * MOST_VARIABLES, 0);
            Arrays.fill(slots, call * slotRoom, (call + 1) * slotRoom, 0);
        }

        /** Closes a call, and returns whether there is one to go on with. */
        private boolean close(int value) {
            calls--;
            if (calls == 0) {
                stop(RETURNED);
                result = value;
            }
            return calls > 0;
        }

        private void stop(int how) {
            outcome = how;
            isRunning = false;
        }

        /** Counts steps, and returns whether the run goes on. */
        private boolean tick(int begins) {
            if (steps + begins > MOST_STEPS) {
                steps = MOST_STEPS;
                stop(TOO_LONG);
                return false;
            }
            steps += begins;
            return true;
        }

        private void push(int value) {
            if (count < MOST_OPERANDS) {
                waiting[count] = value;
                count++;
            }
        }

        private int pop() {
            if (count == 0) {
                return 0;
            }
            count--;
            return waiting[count];
        }

        private int argumentOf(int call, int parameter) {
            return arguments[call * MOST_PARAMETERS + parameter];
        }

        /** Computes what an operator gives, or stops the run. */
        private int operate(int kind, int x, int y) {
            if (isFailing(kind, y)) {
                stop(DIVIDED_BY_ZERO);
                return 0;
            }
            return compute(kind, x, y);
        }

        private int readWord(int place) {
            return memory[place & WORDS - 1];
        }

        private void writeWord(int place, int value) {
            memory[place & WORDS - 1] = value;
        }

        // ---- texts

        private void moveInText() {
            int call = calls - 1;
            int i = at[call];
            at[call] = i + 1;
            if (!tick(program.ticks[i])) {
                return;
            }
            int op = program.op[i];
            if (isOperator(op)) {
                int y = pop();
                int x = pop();
                push(operate(op, x, y));
            } else if (op >= GET || op == GO) {
                moveVariable(call, op, program.argument[i]);
            } else {
                moveWord(call, op, program.argument[i]);
            }
        }

        private void moveVariable(int call, int op, int of) {
            int base = call * MOST_VARIABLES;
            switch (op) {
                case GET: push(cells[base + of]); break;
                case SET: cells[base + of] = pop(); break;
                case KEEP:
                    cells[base + of] = pop();
                    push(cells[base + of]);
                    break;
                case GO: at[call] = program.labelAt[of]; break;
                case SKIP_IF_ZERO:
                    if (pop() == 0) {
                        at[call] = program.labelAt[of];
                    }
                    break;
                case SKIP_IF_SET:
                    if (pop() != 0) {
                        at[call] = program.labelAt[of];
                    }
                    break;
                case FORGET: pop(); break;
                default: break;
            }
        }

        private void moveWord(int call, int op, int of) {
            switch (op) {
                case NUMBER: push(of); break;
                case READ: push(readWord(pop())); break;
                case WRITE:
                    int value = pop();
                    writeWord(pop(), value);
                    break;
                case PARAMETER: cells[call * MOST_VARIABLES + of] = argumentOf(call, of); break;
                case CALL: enter(TEXT, of); break;
                case RETURN:
                    int given = pop();
                    if (close(given)) {
                        push(given);
                    }
                    break;
                default: break;
            }
        }

        // ---- blocks

        private void moveInBlocks() {
            int call = calls - 1;
            Flow flow = flows[function[call]];
            int s = at[call];
            if (s == ENTERS) {
                enterBlock(flow, call);
            } else if (!tick(1)) {
                return;
            } else if (s < 0) {
                endBlock(flow, call);
            } else {
                at[call] = flow.steps.next[s];
                moveStep(flow.steps, call, s);
            }
        }

        private void enterBlock(Flow flow, int call) {
            int base = call * MOST_VARIABLES;
            int b = block[call];
            int phis = 0;
            for (int phi = flow.firstPhi[b]; phi >= 0; phi = flow.phiNext[phi]) {
                if (!tick(1)) {
                    return;
                }
                waiting[phis] = cells[base + flow.take(phi, blockAhead[call])];
                phis++;
            }
            phis = 0;
            for (int phi = flow.firstPhi[b]; phi >= 0; phi = flow.phiNext[phi]) {
                cells[base + flow.phiGives[phi]] = waiting[phis];
                phis++;
            }
            at[call] = flow.firstStep[b];
        }

        private void endBlock(Flow flow, int call) {
            int b = block[call];
            int value = flow.endValue[b] < 0 ? 0 : cells[call * MOST_VARIABLES + flow.endValue[b]];
            if (flow.end[b] == RETURN) {
                if (close(value)) {
                    giveBack(flows[function[calls - 1]], value);
                }
                return;
            }
            boolean isSecond = flow.end[b] == FORK && value == 0;
            blockAhead[call] = b;
            block[call] = isSecond ? flow.second[b] : flow.first[b];
            at[call] = ENTERS;
        }

        // The caller's place is behind its call, so the call is looked for.
        private void giveBack(Flow flow, int value) {
            int call = calls - 1;
            int last = NONE;
            for (int s = flow.firstStep[block[call]]; s >= 0 && s != at[call]; s = flow.steps.next[s]) {
                last = s;
            }
            if (last >= 0) {
                cells[call * MOST_VARIABLES + flow.steps.gives[last]] = value;
            }
        }

        private void moveStep(Steps all, int call, int s) {
            int base = call * MOST_VARIABLES;
            int kind = all.kind[s];
            int left = all.left[s];
            if (kind == NUMBER) {
                cells[base + all.gives[s]] = left;
            } else if (kind == PARAMETER) {
                cells[base + all.gives[s]] = argumentOf(call, left);
            } else if (kind == CALL) {
                enter(BLOCKS, left);
            } else if (kind == READ) {
                cells[base + all.gives[s]] = readWord(cells[base + left]);
            } else if (kind == WRITE) {
                writeWord(cells[base + left], cells[base + all.right[s]]);
            } else if (kind == ARGUMENT) {
                push(cells[base + left]);
            } else {
                cells[base + all.gives[s]] = operate(kind, cells[base + left], cells[base + all.right[s]]);
            }
        }

        // ---- code

        private void moveInCode() {
            int call = calls - 1;
            Steps lines = allocator.code[function[call]];
            int i = at[call];
            if (!tick(1)) {
                return;
            }
            at[call] = i + 1;
            int base = call * MOST_VARIABLES;
            int left = lines.left[i];
            switch (lines.kind[i]) {
                case GO: at[call] = left; break;
                case FORK:
                    if (cells[base + left] != 0) {
                        at[call] = lines.right[i];
                    }
                    break;
                case FORK_ZERO:
                    if (cells[base + left] == 0) {
                        at[call] = lines.right[i];
                    }
                    break;
                case RETURN:
                    int value = cells[base + left];
                    if (close(value)) {
                        int caller = calls - 1;
                        int register = allocator.code[function[caller]].gives[at[caller] - 1];
                        cells[caller * MOST_VARIABLES + register] = value;
                    }
                    break;
                case COPY: cells[base + lines.gives[i]] = cells[base + left]; break;
                case FETCH: cells[base + lines.gives[i]] = slots[call * slotRoom + left]; break;
                case STORE: slots[call * slotRoom + lines.right[i]] = cells[base + left]; break;
                default: moveLine(lines, call, i);
            }
        }

        private void moveLine(Steps lines, int call, int i) {
            if (lines.kind[i] == CALL) {
                enter(BLOCKS + 1, lines.left[i]);
            } else {
                moveStep(lines, call, i);
            }
        }
    }
}
