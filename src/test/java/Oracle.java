import java.util.ArrayDeque;
import java.util.ArrayList;
import java.util.Collections;
import java.util.HashMap;
import java.util.HashSet;
import java.util.LinkedHashMap;
import java.util.List;
import java.util.Map;
import java.util.Set;
import java.util.TreeMap;
import java.util.TreeSet;

/**
 * The document once more, word by word, and as slowly as it likes: what tests compare a Gearbox with.
 * It shares no code and as few ideas as possible with the class that it judges.
 */
final class Oracle {
    static final Set<String> KEYWORDS =
        Set.of("break", "continue", "else", "fun", "if", "return", "var", "while");
    static final List<String> SIGNS = List.of("<<", ">>", "<=", ">=", "==", "!=", "&&", "||",
        "(", ")", "{", "}", "[", "]", ",", ";", "=", "+", "-", "*", "/", "%", "&", "|", "^", "!", "<", ">");

    // The grammar as the document writes it, but for its bounds: NOTHING is a token that there is not.
    static final String[] GRAMMAR = {
        "program = function [ function [ function [ function [ function [ function ] ] ] ] ]",
        "function = fun NAME \"(\" [ NAME [ \",\" NAME [ \",\" NAME [ \",\" NAME [ \",\" NOTHING ] ] ] ] ] \")\" block",
        "block = \"{\" { statement } \"}\"",
        "statement = var NAME \"=\" test \";\" | NAME \"=\" test \";\" | \"[\" test \"]\" \"=\" test \";\""
            + " | NAME \"(\" arguments \")\" \";\" | if test block [ else block ] | while test block"
            + " | break \";\" | continue \";\" | return test \";\"",
        "arguments = [ test [ \",\" test [ \",\" test [ \",\" test [ \",\" NOTHING ] ] ] ] ]",
        "test = both { \"||\" both }",
        "both = compared { \"&&\" compared }",
        "compared = sum [ ( \"<\" | \"<=\" | \">\" | \">=\" | \"==\" | \"!=\" ) sum ]",
        "sum = product { ( \"+\" | \"-\" | \"|\" | \"^\" ) product }",
        "product = signed { ( \"*\" | \"/\" | \"%\" | \"&\" | \"<<\" | \">>\" ) signed }",
        "signed = [ \"-\" | \"!\" ] single",
        "single = number | NAME | NAME \"(\" arguments \")\" | \"[\" test \"]\" | \"(\" test \")\"",
    };

    // ------------------------------------------------------------------ tokens

    record Token(String kind, String text, int place) {
    }

    static List<Token> tokens(String text) {
        List<Token> all = new ArrayList<>();
        int at = 0;
        while (true) {
            while (at < text.length() && (text.charAt(at) == 32 || text.charAt(at) == 10)) {
                at++;
            }
            if (at == text.length()) {
                return all;
            }
            int from = at;
            String kind = "WRONG";
            char c = text.charAt(at);
            if (c >= 'a' && c <= 'z') {
                while (at < text.length() && String.valueOf(text.charAt(at)).matches("[a-z0-9]")) {
                    at++;
                }
                String word = text.substring(from, at);
                kind = word.length() > 8 ? "WRONG" : KEYWORDS.contains(word) ? word : "NAME";
            } else if (c >= '0' && c <= '9') {
                while (at < text.length() && String.valueOf(text.charAt(at)).matches("[0-9]")) {
                    at++;
                }
                kind = at - from > 9 ? "WRONG" : "number";
            } else {
                at++;
                for (String sign : SIGNS) {
                    if (text.startsWith(sign, from)) {
                        kind = sign;
                        at = from + sign.length();
                        break;
                    }
                }
            }
            if (all.size() == 600) {
                kind = "WRONG";
            }
            all.add(new Token(kind, text.substring(from, at), from));
        }
    }

    // ------------------------------------------------------------------ grammar

    interface Ex {
    }

    record Seq(List<Ex> parts) implements Ex {
    }

    record Alt(List<Ex> ways) implements Ex {
    }

    record Opt(Ex inner) implements Ex {
    }

    record Rep(Ex inner) implements Ex {
    }

    record Word(String kind) implements Ex {
    }

    record Stack(Ex top, Stack rest) {
    }

    static final Map<String, Ex> RULES = rules();

    static Map<String, Ex> rules() {
        Map<String, Ex> rules = new HashMap<>();
        for (String line : GRAMMAR) {
            ArrayDeque<String> words = new ArrayDeque<>(List.of(line.split(" ")));
            String name = words.poll();
            words.poll();
            rules.put(name, alternatives(words));
        }
        return rules;
    }

    static Ex alternatives(ArrayDeque<String> words) {
        List<Ex> ways = new ArrayList<>();
        List<Ex> parts = new ArrayList<>();
        while (!words.isEmpty() && !Set.of("]", "}", ")").contains(words.peek())) {
            String word = words.poll();
            switch (word) {
                case "|":
                    ways.add(new Seq(parts));
                    parts = new ArrayList<>();
                    break;
                case "[":
                    parts.add(new Opt(alternatives(words)));
                    words.poll();
                    break;
                case "{":
                    parts.add(new Rep(alternatives(words)));
                    words.poll();
                    break;
                case "(":
                    parts.add(alternatives(words));
                    words.poll();
                    break;
                default:
                    parts.add(new Word(word.startsWith("\"") ? word.substring(1, word.length() - 1) : word));
            }
        }
        ways.add(new Seq(parts));
        return new Alt(ways);
    }

    /** All stacks to which one comes without a token, with a token on top; null if the end may come. */
    static void unfold(Stack stack, List<Stack> into) {
        if (stack == null) {
            into.add(null);
            return;
        }
        Ex top = stack.top();
        if (top instanceof Word w && !RULES.containsKey(w.kind())) {
            into.add(stack);
        } else if (top instanceof Word w) {
            unfold(new Stack(RULES.get(w.kind()), stack.rest()), into);
        } else if (top instanceof Alt a) {
            for (Ex way : a.ways()) {
                unfold(new Stack(way, stack.rest()), into);
            }
        } else if (top instanceof Seq s) {
            Stack all = stack.rest();
            for (int n = s.parts().size() - 1; n >= 0; n--) {
                all = new Stack(s.parts().get(n), all);
            }
            unfold(all, into);
        } else if (top instanceof Opt o) {
            unfold(stack.rest(), into);
            unfold(new Stack(o.inner(), stack.rest()), into);
        } else if (top instanceof Rep r) {
            unfold(stack.rest(), into);
            unfold(new Stack(r.inner(), stack), into);
        }
    }

    /** The place of the first token that cannot stand where it stands; -1 if the text is a program. */
    static int wrongPlace(String text, List<Token> tokens) {
        List<Stack> now = new ArrayList<>();
        unfold(new Stack(new Word("program"), null), now);
        int open = 0;
        for (Token token : tokens) {
            List<Stack> next = new ArrayList<>();
            for (Stack stack : now) {
                if (stack != null && ((Word) stack.top()).kind().equals(token.kind())) {
                    unfold(stack.rest(), next);
                }
            }
            if (Set.of("(", "[", "{").contains(token.kind())) {
                open++;
            }
            if (Set.of(")", "]", "}").contains(token.kind())) {
                open--;
            }
            if (next.isEmpty() || open > 8) {
                return token.place();
            }
            now = next;
        }
        return now.contains(null) ? -1 : text.length();
    }

    // ------------------------------------------------------------------ programs as trees

    static final class Var {
        int number = -1;
    }

    static final class Test {
        String op;
        int place;
        String name;
        int number;
        Var var;
        Fun called;
        List<Test> kids = new ArrayList<>();

        int height() {
            int most = 0;
            for (Test kid : kids) {
                most = Math.max(most, kid.height());
            }
            return most + 1;
        }
    }

    static final class Statement {
        String kind;
        int place;
        String name;
        int namePlace;
        Var var;
        Test first;
        Test second;
        List<Statement> body;
        List<Statement> other;
    }

    static final class Fun {
        int index;
        String name;
        int place;
        List<String> parameters = new ArrayList<>();
        List<Integer> parameterPlaces = new ArrayList<>();
        List<Var> variables = new ArrayList<>();
        List<Statement> body;
    }

    /** Builds trees out of tokens that are known to be a program. */
    static final class Trees {
        final List<Token> tokens;
        int at;

        Trees(List<Token> tokens) {
            this.tokens = tokens;
        }

        boolean is(String kind) {
            return at < tokens.size() && tokens.get(at).kind().equals(kind);
        }

        Token take() {
            return tokens.get(at++);
        }

        boolean may(String kind) {
            if (is(kind)) {
                at++;
                return true;
            }
            return false;
        }

        List<Fun> program() {
            List<Fun> all = new ArrayList<>();
            while (may("fun")) {
                Fun fun = new Fun();
                fun.index = all.size();
                fun.place = tokens.get(at).place();
                fun.name = take().text();
                take();
                while (!is(")")) {
                    fun.parameterPlaces.add(tokens.get(at).place());
                    fun.parameters.add(take().text());
                    may(",");
                }
                take();
                fun.body = block();
                all.add(fun);
            }
            return all;
        }

        List<Statement> block() {
            List<Statement> all = new ArrayList<>();
            take();
            while (!may("}")) {
                all.add(statement());
            }
            return all;
        }

        Statement statement() {
            Statement s = new Statement();
            s.kind = tokens.get(at).kind();
            s.place = tokens.get(at).place();
            if (s.kind.equals("NAME") && tokens.get(at + 1).kind().equals("(")) {
                s.kind = "call";
                s.first = level(5);
                take();
                return s;
            }
            Token begin = take();
            switch (s.kind) {
                case "var":
                    begin = take();
                    // falls through
                case "NAME":
                    s.name = begin.text();
                    s.namePlace = begin.place();
                    take();
                    s.first = level(0);
                    take();
                    break;
                case "[":
                    s.first = level(0);
                    take();
                    take();
                    s.second = level(0);
                    take();
                    break;
                case "if":
                case "while":
                    s.first = level(0);
                    s.body = block();
                    if (s.kind.equals("if") && may("else")) {
                        s.other = block();
                    }
                    break;
                case "return":
                    s.first = level(0);
                    take();
                    break;
                default:
                    take();
            }
            return s;
        }

        static final List<Set<String>> ROWS = List.of(Set.of("||"), Set.of("&&"),
            Set.of("<", "<=", ">", ">=", "==", "!="), Set.of("+", "-", "|", "^"),
            Set.of("*", "/", "%", "&", "<<", ">>"));

        Test level(int row) {
            if (row == 5) {
                return signed();
            }
            Test left = level(row + 1);
            while (at < tokens.size() && ROWS.get(row).contains(tokens.get(at).kind())) {
                Token sign = take();
                Test both = new Test();
                both.op = sign.kind();
                both.place = sign.place();
                both.kids.add(left);
                both.kids.add(level(row + 1));
                left = both;
            }
            return left;
        }

        Test signed() {
            Test test = new Test();
            test.place = tokens.get(at).place();
            if (is("-") || is("!")) {
                test.op = is("-") ? "negative" : "not";
                take();
                test.kids.add(signed());
                return test;
            }
            Token token = take();
            switch (token.kind()) {
                case "number":
                    test.op = "number";
                    test.number = Integer.parseInt(token.text());
                    break;
                case "NAME":
                    test.op = "name";
                    test.name = token.text();
                    if (may("(")) {
                        test.op = "call";
                        while (!may(")")) {
                            test.kids.add(level(0));
                            may(",");
                        }
                    }
                    break;
                case "[":
                    test.op = "word";
                    test.kids.add(level(0));
                    take();
                    break;
                default:
                    test = level(0);
                    take();
            }
            return test;
        }
    }

    // ------------------------------------------------------------------ errors 2 to 5

    static final class Faults {
        final List<Fun> program;
        final TreeSet<Integer> tall = new TreeSet<>();
        final TreeMap<Integer, Integer> first = new TreeMap<>();
        final Map<String, Fun> byName = new HashMap<>();

        Faults(List<Fun> program) {
            this.program = program;
            for (Fun fun : program) {
                if (byName.containsKey(fun.name)) {
                    fault(3, fun.place);
                } else {
                    byName.put(fun.name, fun);
                }
            }
            for (Fun fun : program) {
                Map<String, Var> seen = new LinkedHashMap<>();
                for (int n = 0; n < fun.parameters.size(); n++) {
                    if (seen.containsKey(fun.parameters.get(n))) {
                        fault(3, fun.parameterPlaces.get(n));
                    }
                    Var var = new Var();
                    fun.variables.add(var);
                    seen.put(fun.parameters.get(n), var);
                }
                look(fun.body, seen, false);
            }
        }

        void fault(int error, int place) {
            first.merge(place, error, Math::min);
        }

        void look(List<Statement> block, Map<String, Var> outside, boolean isLoop) {
            Map<String, Var> seen = new LinkedHashMap<>(outside);
            for (Statement s : block) {
                if (s.first != null) {
                    look(s.first, seen);
                }
                if (s.second != null) {
                    look(s.second, seen);
                }
                if (s.kind.equals("var")) {
                    if (seen.containsKey(s.name)) {
                        fault(3, s.namePlace);
                    }
                    s.var = new Var();
                    seen.put(s.name, s.var);
                } else if (s.name != null) {
                    s.var = seen.get(s.name);
                    if (s.var == null) {
                        fault(3, s.namePlace);
                    }
                }
                if ((s.kind.equals("break") || s.kind.equals("continue")) && !isLoop) {
                    fault(5, s.place);
                }
                if (s.body != null) {
                    look(s.body, seen, isLoop || s.kind.equals("while"));
                }
                if (s.other != null) {
                    look(s.other, seen, isLoop);
                }
            }
        }

        void look(Test test, Map<String, Var> seen) {
            if (test.height() > 10) {
                tall.add(test.place);
            }
            if (test.op.equals("name")) {
                test.var = seen.get(test.name);
                if (test.var == null) {
                    fault(3, test.place);
                }
            }
            if (test.op.equals("call")) {
                test.called = byName.get(test.name);
                if (test.called == null) {
                    fault(3, test.place);
                } else if (test.called.parameters.size() != test.kids.size()) {
                    fault(4, test.place);
                }
            }
            for (Test kid : test.kids) {
                look(kid, seen);
            }
        }
    }

    // ------------------------------------------------------------------ blocks

    static final class Step {
        int kind;
        int gives = -1;
        int left = -1;
        int right = -1;

        Step(int kind, int gives, int left, int right) {
            this.kind = kind;
            this.gives = gives;
            this.left = left;
            this.right = right;
        }

        boolean usesLeft() {
            return kind >= 1 && kind <= 19 || kind == 25 || kind == 27;
        }

        boolean usesRight() {
            return kind >= 1 && kind <= 16 || kind == 18;
        }

        List<Integer> used() {
            List<Integer> all = new ArrayList<>();
            if (usesLeft()) {
                all.add(left);
            }
            if (usesRight() && right != left) {
                all.add(right);
            }
            return all;
        }
    }

    static final class Phi {
        int gives;
        Var var;
        Map<Block, Integer> takes = new HashMap<>();
    }

    static final class Block {
        int number;
        List<Phi> phis = new ArrayList<>();
        List<Step> steps = new ArrayList<>();
        int end;
        int endValue = -1;
        Block first;
        Block second;
        // While blocks are made: what is done here, one thing behind the other.
        List<Thing> things = new ArrayList<>();
        Thing endThing;

        List<Block> ways() {
            List<Block> all = new ArrayList<>();
            if (first != null) {
                all.add(first);
            }
            if (second != null) {
                all.add(second);
            }
            return all;
        }
    }

    /** Something that is done in a block that is made: a step, an assignment, or that a name is evaluated. */
    static final class Thing {
        int kind;
        int number;
        Thing left;
        Thing right;
        Var assigned;
        Var looked;
        int value = -1;
    }

    static boolean giving(int kind) {
        return kind <= 17 || kind == 20 || kind == 21;
    }

    static final class Graph {
        List<Block> blocks = new ArrayList<>();
        int limit;

        List<Block> waysTo(Block block) {
            List<Block> all = new ArrayList<>();
            for (Block from : blocks) {
                if (from.first == block || from.second == block) {
                    all.add(from);
                }
            }
            return all;
        }

        static Set<Block> reach(Block from, Block without) {
            Set<Block> seen = new HashSet<>();
            ArrayDeque<Block> todo = new ArrayDeque<>();
            if (from != without) {
                todo.add(from);
                seen.add(from);
            }
            while (!todo.isEmpty()) {
                for (Block next : todo.poll().ways()) {
                    if (next != without && seen.add(next)) {
                        todo.add(next);
                    }
                }
            }
            return seen;
        }

        // What is known of the shape of these blocks, until it changes.
        private Map<Block, Set<Block>> dominated;
        private Map<Block, Set<Block>> loops;

        boolean dominates(Block one, Block other) {
            if (dominated == null) {
                dominated = new HashMap<>();
                for (Block block : blocks) {
                    Set<Block> rest = new HashSet<>(blocks);
                    rest.removeAll(reach(blocks.get(0), block));
                    dominated.put(block, rest);
                }
            }
            return dominated.get(one).contains(other);
        }

        Block dominator(Block block) {
            for (Block d : blocks) {
                if (d == block || !dominates(d, block)) {
                    continue;
                }
                boolean isNearest = true;
                for (Block e : blocks) {
                    if (e != block && dominates(e, block) && !dominates(e, d)) {
                        isNearest = false;
                    }
                }
                if (isNearest) {
                    return d;
                }
            }
            return null;
        }

        Set<Block> border(Block block) {
            Set<Block> all = new HashSet<>();
            for (Block other : blocks) {
                for (Block from : waysTo(other)) {
                    if (dominates(block, from) && (other == block || !dominates(block, other))) {
                        all.add(other);
                    }
                }
            }
            return all;
        }

        /** The loop of which a block is the head; empty if of none. */
        Set<Block> loop(Block head) {
            if (loops == null) {
                loops = new HashMap<>();
                for (Block block : blocks) {
                    loops.put(block, findLoop(block));
                }
            }
            return loops.get(head);
        }

        private Set<Block> findLoop(Block head) {
            Set<Block> all = new HashSet<>();
            for (Block back : waysTo(head)) {
                if (dominates(head, back)) {
                    all.add(head);
                    for (Block block : blocks) {
                        if (block != head && reach(block, head).contains(back)) {
                            all.add(block);
                        }
                    }
                }
            }
            return all;
        }

        int depth(Block block) {
            int depth = 0;
            for (Block head : blocks) {
                depth += loop(head).contains(block) ? 1 : 0;
            }
            return depth;
        }

        void number() {
            dominated = null;
            loops = null;
            List<Block> finished = new ArrayList<>();
            walk(blocks.get(0), new HashSet<>(), finished);
            Collections.reverse(finished);
            for (Block block : blocks) {
                for (Phi phi : block.phis) {
                    phi.takes.keySet().removeIf(from -> !finished.contains(from) || !from.ways().contains(block));
                }
            }
            blocks = finished;
            for (int n = 0; n < blocks.size(); n++) {
                blocks.get(n).number = n;
            }
        }

        private static void walk(Block block, Set<Block> been, List<Block> finished) {
            been.add(block);
            List<Block> ways = block.ways();
            Collections.reverse(ways);
            for (Block next : ways) {
                if (!been.contains(next)) {
                    walk(next, been, finished);
                }
            }
            finished.add(block);
        }

        Step giver(int value) {
            for (Block block : blocks) {
                for (Step step : block.steps) {
                    if (step.gives == value) {
                        return step;
                    }
                }
            }
            return null;
        }

        boolean isNumber(int value) {
            Step giver = giver(value);
            return giver != null && giver.kind == 0;
        }

        boolean isNumber(int value, int n) {
            return isNumber(value) && giver(value).left == n;
        }

        Block home(int value) {
            for (Block block : blocks) {
                for (Phi phi : block.phis) {
                    if (phi.gives == value) {
                        return block;
                    }
                }
                for (Step step : block.steps) {
                    if (step.gives == value) {
                        return block;
                    }
                }
            }
            return null;
        }

        int values() {
            int count = 0;
            for (Block block : blocks) {
                count += block.phis.size();
                for (Step step : block.steps) {
                    count += step.gives >= 0 ? 1 : 0;
                }
            }
            return count;
        }

        void replace(int before, int now) {
            for (Block block : blocks) {
                for (Phi phi : block.phis) {
                    phi.takes.replaceAll((from, value) -> value == before ? now : value);
                }
                for (Step step : block.steps) {
                    if (step.usesLeft() && step.left == before) {
                        step.left = now;
                    }
                    if (step.usesRight() && step.right == before) {
                        step.right = now;
                    }
                }
                if (block.endValue == before) {
                    block.endValue = now;
                }
            }
        }
    }

    static final class Making {
        final Fun fun;
        final List<Block> made = new ArrayList<>();
        final List<Var> variables = new ArrayList<>();
        Block now;
        final ArrayDeque<Block> heads = new ArrayDeque<>();
        final ArrayDeque<Block> exits = new ArrayDeque<>();

        Making(Fun fun) {
            this.fun = fun;
            begin(newBlock());
            for (int n = 0; n < fun.parameters.size(); n++) {
                Thing step = step(21, null, null);
                step.number = n;
                assign(fun.variables.get(n), step);
            }
            make(fun.body);
            end(24, number(0), null, null);
        }

        Block newBlock() {
            Block block = new Block();
            made.add(block);
            return block;
        }

        void begin(Block block) {
            now = block;
        }

        void end(int kind, Thing value, Block first, Block second) {
            now.end = kind;
            now.endThing = value;
            now.first = first;
            now.second = second;
        }

        Thing step(int kind, Thing left, Thing right) {
            Thing thing = new Thing();
            thing.kind = kind;
            thing.left = left;
            thing.right = right;
            now.things.add(thing);
            return thing;
        }

        Thing number(int n) {
            Thing step = step(0, null, null);
            step.number = n;
            return step;
        }

        void assign(Var var, Thing value) {
            Thing thing = new Thing();
            thing.kind = -1;
            thing.assigned = var;
            thing.left = value;
            now.things.add(thing);
            if (!variables.contains(var)) {
                var.number = variables.size();
                variables.add(var);
            }
        }

        Thing lookAt(Var var) {
            Thing thing = new Thing();
            thing.kind = -1;
            thing.looked = var;
            now.things.add(thing);
            return thing;
        }

        static final List<String> OPERATORS = List.of("", "+", "-", "*", "/", "%", "&", "|", "^", "<<", ">>",
            "<", "<=", ">", ">=", "==", "!=");

        Thing make(Test test) {
            switch (test.op) {
                case "number":
                    return number(test.number);
                case "name":
                    return lookAt(test.var);
                case "negative": {
                    Thing zero = number(0);
                    return step(2, zero, make(test.kids.get(0)));
                }
                case "not": {
                    Thing x = make(test.kids.get(0));
                    return step(15, x, number(0));
                }
                case "word":
                    return step(17, make(test.kids.get(0)), null);
                case "call": {
                    List<Thing> arguments = new ArrayList<>();
                    for (Test kid : test.kids) {
                        arguments.add(make(kid));
                    }
                    for (Thing argument : arguments) {
                        step(19, argument, null);
                    }
                    Thing call = step(20, null, null);
                    call.number = test.called.index;
                    return call;
                }
                case "&&":
                case "||": {
                    Thing x = make(test.kids.get(0));
                    Thing truth = step(16, x, number(0));
                    Var var = new Var();
                    assign(var, truth);
                    Block r = newBlock();
                    Block e = newBlock();
                    if (test.op.equals("&&")) {
                        end(23, truth, r, e);
                    } else {
                        end(23, truth, e, r);
                    }
                    begin(r);
                    Thing y = make(test.kids.get(1));
                    assign(var, step(16, y, number(0)));
                    end(22, null, e, null);
                    begin(e);
                    return lookAt(var);
                }
                default: {
                    Thing x = make(test.kids.get(0));
                    Thing y = make(test.kids.get(1));
                    return step(OPERATORS.indexOf(test.op), x, y);
                }
            }
        }

        void make(List<Statement> block) {
            for (Statement s : block) {
                make(s);
            }
        }

        void make(Statement s) {
            switch (s.kind) {
                case "var":
                case "NAME":
                    assign(s.var, make(s.first));
                    break;
                case "[": {
                    Thing x = make(s.first);
                    Thing y = make(s.second);
                    step(18, x, y);
                    break;
                }
                case "call":
                    make(s.first);
                    break;
                case "return":
                    end(24, make(s.first), null, null);
                    begin(newBlock());
                    break;
                case "if": {
                    Thing test = make(s.first);
                    Block t = newBlock();
                    Block f = s.other == null ? null : newBlock();
                    Block j = newBlock();
                    end(23, test, t, f == null ? j : f);
                    begin(t);
                    make(s.body);
                    end(22, null, j, null);
                    if (f != null) {
                        begin(f);
                        make(s.other);
                        end(22, null, j, null);
                    }
                    begin(j);
                    break;
                }
                case "while": {
                    Block h = newBlock();
                    Block b = newBlock();
                    Block x = newBlock();
                    end(22, null, h, null);
                    begin(h);
                    Thing test = make(s.first);
                    end(23, test, b, x);
                    begin(b);
                    heads.push(h);
                    exits.push(x);
                    make(s.body);
                    heads.pop();
                    exits.pop();
                    end(22, null, h, null);
                    begin(x);
                    break;
                }
                case "break":
                    end(22, null, exits.peek(), null);
                    begin(newBlock());
                    break;
                default:
                    end(22, null, heads.peek(), null);
                    begin(newBlock());
            }
        }

        /** The blocks; null if there are too many of them, or of values. */
        Graph graph() {
            Graph graph = new Graph();
            Set<Block> reached = Graph.reach(made.get(0), null);
            for (Block block : made) {
                if (reached.contains(block)) {
                    graph.blocks.add(block);
                }
            }
            List<Block> put = new ArrayList<>();
            Map<Block, Integer> ways = new HashMap<>();
            for (Block block : graph.blocks) {
                for (Block to : block.ways()) {
                    ways.merge(to, 1, Integer::sum);
                }
            }
            for (Block block : graph.blocks) {
                if (block.ways().size() == 2) {
                    block.first = split(block.first, ways, put);
                    block.second = split(block.second, ways, put);
                }
            }
            graph.blocks.addAll(put);
            if (graph.blocks.size() > 60) {
                return null;
            }
            graph.number();
            for (Var var : variables) {
                placePhis(graph, var);
            }
            int count = 0;
            for (Block block : graph.blocks) {
                for (Phi phi : block.phis) {
                    phi.gives = count++;
                }
                for (Thing thing : block.things) {
                    if (thing.kind >= 0 && giving(thing.kind)) {
                        thing.value = count++;
                    }
                }
            }
            graph.limit = count;
            if (count > 250) {
                return null;
            }
            fill(graph);
            return graph;
        }

        static Block split(Block to, Map<Block, Integer> ways, List<Block> put) {
            if (ways.get(to) < 2) {
                return to;
            }
            Block block = new Block();
            block.end = 22;
            block.first = to;
            put.add(block);
            return block;
        }

        static boolean assigns(Block block, Var var) {
            return block.things.stream().anyMatch(thing -> thing.assigned == var);
        }

        /** Whether there is a way from the beginning of a block to a use without an assignment ahead of it. */
        static boolean isWanted(Block from, Var var) {
            Set<Block> seen = new HashSet<>(Set.of(from));
            ArrayDeque<Block> todo = new ArrayDeque<>(seen);
            search:
            while (!todo.isEmpty()) {
                Block block = todo.poll();
                for (Thing thing : block.things) {
                    if (thing.looked == var) {
                        return true;
                    }
                    if (thing.assigned == var) {
                        continue search;
                    }
                }
                for (Block next : block.ways()) {
                    if (seen.add(next)) {
                        todo.add(next);
                    }
                }
            }
            return false;
        }

        static Phi phiOf(Block block, Var var) {
            for (Phi phi : block.phis) {
                if (phi.var == var) {
                    return phi;
                }
            }
            return null;
        }

        static void placePhis(Graph graph, Var var) {
            boolean changed = true;
            while (changed) {
                changed = false;
                for (Block block : graph.blocks) {
                    if (assigns(block, var) || phiOf(block, var) != null) {
                        for (Block edge : graph.border(block)) {
                            if (phiOf(edge, var) == null && isWanted(edge, var)) {
                                Phi phi = new Phi();
                                phi.var = var;
                                edge.phis.add(phi);
                                changed = true;
                            }
                        }
                    }
                }
            }
        }

        static int atBeginning(Graph graph, Block block, Var var) {
            Phi phi = phiOf(block, var);
            if (phi != null) {
                return phi.gives;
            }
            return atEnd(graph, graph.dominator(block), var);
        }

        static int atEnd(Graph graph, Block block, Var var) {
            for (int n = block.things.size() - 1; n >= 0; n--) {
                if (block.things.get(n).assigned == var) {
                    return valueOf(graph, block, block.things.get(n).left);
                }
            }
            return atBeginning(graph, block, var);
        }

        static int valueOf(Graph graph, Block block, Thing thing) {
            if (thing.looked == null) {
                return thing.value;
            }
            Block home = block;
            if (!home.things.contains(thing)) {
                for (Block other : graph.blocks) {
                    if (other.things.contains(thing)) {
                        home = other;
                    }
                }
            }
            for (int n = home.things.indexOf(thing) - 1; n >= 0; n--) {
                if (home.things.get(n).assigned == thing.looked) {
                    return valueOf(graph, home, home.things.get(n).left);
                }
            }
            return atBeginning(graph, home, thing.looked);
        }

        static void fill(Graph graph) {
            for (Block block : graph.blocks) {
                for (Phi phi : block.phis) {
                    for (Block from : graph.waysTo(block)) {
                        phi.takes.put(from, atEnd(graph, from, phi.var));
                    }
                }
                for (Thing thing : block.things) {
                    if (thing.kind >= 0) {
                        int left = thing.left == null ? -1 : valueOf(graph, block, thing.left);
                        if (thing.kind == 0 || thing.kind == 20 || thing.kind == 21) {
                            left = thing.number;
                        }
                        int right = thing.right == null ? -1 : valueOf(graph, block, thing.right);
                        block.steps.add(new Step(thing.kind, thing.value, left, right));
                    }
                }
                if (block.endThing != null) {
                    block.endValue = valueOf(graph, block, block.endThing);
                }
            }
        }
    }

    // ------------------------------------------------------------------ sums

    static Integer compute(int kind, int x, int y) {
        switch (kind) {
            case 1: return x + y;
            case 2: return x - y;
            case 3: return x * y;
            case 4: return y == 0 ? null : (Integer) (x / y);
            case 5: return y == 0 ? null : (Integer) (x % y);
            case 6: return x & y;
            case 7: return x | y;
            case 8: return x ^ y;
            case 9: return x << y;
            case 10: return x >> y;
            case 11: return x < y ? 1 : 0;
            case 12: return x <= y ? 1 : 0;
            case 13: return x > y ? 1 : 0;
            case 14: return x >= y ? 1 : 0;
            case 15: return x == y ? 1 : 0;
            case 16: return x != y ? 1 : 0;
            default: throw new AssertionError();
        }
    }

    // ------------------------------------------------------------------ passes

    static final Object VARIES = "varies";

    static final class Known {
        final Graph graph;
        final Map<Integer, Object> known = new HashMap<>();
        final Set<Block> reached = new HashSet<>();
        boolean isNew;

        Known(Graph graph) {
            this.graph = graph;
            reached.add(graph.blocks.get(0));
            do {
                isNew = false;
                // Backwards, so that what comes of it may not hang on the order.
                for (int n = graph.blocks.size() - 1; n >= 0; n--) {
                    if (reached.contains(graph.blocks.get(n))) {
                        learn(graph.blocks.get(n));
                    }
                }
            } while (isNew);
        }

        void put(int value, Object what) {
            Object before = known.get(value);
            if (what == null || what.equals(before)) {
                return;
            }
            if (before != null && what != VARIES) {
                throw new AssertionError("a number became another one");
            }
            known.put(value, what);
            isNew = true;
        }

        boolean isReached(Block from, Block to) {
            if (!reached.contains(from)) {
                return false;
            }
            if (from.end == 22) {
                return from.first == to;
            }
            Object what = known.get(from.endValue);
            if (what == null) {
                return false;
            }
            return what == VARIES || ((Integer) what != 0 ? from.first : from.second) == to;
        }

        void learn(Block block) {
            for (Phi phi : block.phis) {
                Set<Object> all = new HashSet<>();
                for (Block from : graph.waysTo(block)) {
                    if (isReached(from, block) && known.get(phi.takes.get(from)) != null) {
                        all.add(known.get(phi.takes.get(from)));
                    }
                }
                if (!all.isEmpty()) {
                    put(phi.gives, all.size() == 1 ? all.iterator().next() : VARIES);
                }
            }
            for (Step step : block.steps) {
                if (step.kind == 0) {
                    put(step.gives, step.left);
                } else if (step.kind == 17 || step.kind == 20 || step.kind == 21) {
                    put(step.gives, VARIES);
                } else if (step.kind <= 16) {
                    Object x = known.get(step.left);
                    Object y = known.get(step.right);
                    boolean byZero = (step.kind == 4 || step.kind == 5) && Integer.valueOf(0).equals(y);
                    if (x == VARIES || y == VARIES || byZero) {
                        put(step.gives, VARIES);
                    } else if (x != null && y != null) {
                        put(step.gives, compute(step.kind, (Integer) x, (Integer) y));
                    }
                }
            }
            for (Block to : block.ways()) {
                if (isReached(block, to) && reached.add(to)) {
                    isNew = true;
                }
            }
        }
    }

    static int fold(Graph graph) {
        Known all = new Known(graph);
        int changes = 0;
        for (Block block : graph.blocks) {
            if (!all.reached.contains(block)) {
                continue;
            }
            for (Step step : block.steps) {
                if (step.kind >= 1 && step.kind <= 16 && all.known.get(step.gives) instanceof Integer n) {
                    step.kind = 0;
                    step.left = n;
                    step.right = -1;
                    changes++;
                }
            }
            int ahead = 0;
            for (Phi phi : List.copyOf(block.phis)) {
                if (all.known.get(phi.gives) instanceof Integer n) {
                    block.phis.remove(phi);
                    block.steps.add(ahead++, new Step(0, phi.gives, n, -1));
                    changes++;
                }
            }
            if (block.end == 23 && all.known.get(block.endValue) instanceof Integer n) {
                block.end = 22;
                block.first = n != 0 ? block.first : block.second;
                block.second = null;
                block.endValue = -1;
                changes++;
            }
        }
        graph.number();
        return changes;
    }

    static final class Joining {
        final Graph graph;
        final Map<Integer, Integer> stands = new HashMap<>();
        final Set<Integer> changed = new HashSet<>();
        final List<Step> gone = new ArrayList<>();
        final Map<Step, Block> where = new HashMap<>();

        Joining(Graph graph) {
            this.graph = graph;
            go(graph.blocks.get(0));
            for (Block block : graph.blocks) {
                block.phis.removeIf(phi -> stands.containsKey(phi.gives));
                block.steps.removeIf(step -> stands.containsKey(step.gives));
            }
            for (int value : stands.keySet()) {
                graph.replace(value, meant(value));
            }
            changed.addAll(stands.keySet());
        }

        int meant(int value) {
            return stands.containsKey(value) ? meant(stands.get(value)) : value;
        }

        void go(Block block) {
            for (Phi phi : block.phis) {
                Set<Integer> others = new HashSet<>();
                for (int value : phi.takes.values()) {
                    others.add(meant(value));
                }
                others.remove(phi.gives);
                if (others.size() == 1) {
                    stands.put(phi.gives, others.iterator().next());
                    continue;
                }
                for (Phi ahead : block.phis) {
                    if (ahead == phi) {
                        break;
                    }
                    boolean alike = !stands.containsKey(ahead.gives);
                    for (Block from : phi.takes.keySet()) {
                        alike = alike && meant(phi.takes.get(from)) == meant(ahead.takes.get(from));
                    }
                    if (alike) {
                        stands.put(phi.gives, ahead.gives);
                        break;
                    }
                }
            }
            for (Step step : block.steps) {
                go(block, step);
            }
            for (Block below : graph.blocks) {
                if (below.number > 0 && graph.dominator(below) == block) {
                    go(below);
                }
            }
        }

        void number(Step step, int n) {
            step.kind = 0;
            step.left = n;
            step.right = -1;
            changed.add(step.gives);
        }

        void go(Block block, Step step) {
            if (step.kind > 16) {
                return;
            }
            if (step.kind > 0) {
                simplify(step);
            }
            if (stands.containsKey(step.gives)) {
                return;
            }
            for (Step ahead : gone) {
                if (!stands.containsKey(ahead.gives) && graph.dominates(where.get(ahead), block)
                    && ahead.kind == step.kind && isAlike(ahead, step)) {
                    stands.put(step.gives, ahead.gives);
                    return;
                }
            }
            gone.add(step);
            where.put(step, block);
        }

        boolean isAlike(Step one, Step other) {
            if (one.kind == 0) {
                return one.left == other.left;
            }
            return meant(one.left) == meant(other.left) && meant(one.right) == meant(other.right);
        }

        void simplify(Step step) {
            int x = meant(step.left);
            int y = meant(step.right);
            int k = step.kind;
            if (graph.isNumber(x) && graph.isNumber(y)) {
                Integer n = compute(k, graph.giver(x).left, graph.giver(y).left);
                if (n != null) {
                    number(step, n);
                    return;
                }
            }
            boolean x0 = graph.isNumber(x, 0);
            boolean x1 = graph.isNumber(x, 1);
            boolean y0 = graph.isNumber(y, 0);
            boolean y1 = graph.isNumber(y, 1);
            boolean same = x == y;
            if ((k == 1 || k == 2 || k == 7 || k == 8 || k == 9 || k == 10) && y0
                || (k == 3 || k == 4) && y1 || (k == 6 || k == 7) && same) {
                stands.put(step.gives, x);
            } else if ((k == 1 || k == 7 || k == 8) && x0 || k == 3 && x1) {
                stands.put(step.gives, y);
            } else if ((k == 3 || k == 6) && (x0 || y0) || k == 5 && y1
                || (k == 2 || k == 8 || k == 16 || k == 11 || k == 13) && same) {
                number(step, 0);
            } else if ((k == 15 || k == 12 || k == 14) && same) {
                number(step, 1);
            } else if (Set.of(1, 3, 6, 7, 8, 15, 16).contains(k) && x > y) {
                step.left = y;
                step.right = x;
            }
        }
    }

    static int same(Graph graph) {
        return new Joining(graph).changed.size();
    }

    static boolean mayFail(Graph graph, Step step) {
        return (step.kind == 4 || step.kind == 5) && (!graph.isNumber(step.right) || graph.isNumber(step.right, 0));
    }

    static int drop(Graph graph) {
        Set<Integer> wanted = new HashSet<>();
        ArrayDeque<Integer> todo = new ArrayDeque<>();
        for (Block block : graph.blocks) {
            if (block.endValue >= 0) {
                todo.add(block.endValue);
            }
            for (Step step : block.steps) {
                if (step.kind == 18 || step.kind == 19) {
                    todo.addAll(step.used());
                }
                if (mayFail(graph, step)) {
                    todo.add(step.gives);
                }
            }
        }
        while (!todo.isEmpty()) {
            int value = todo.poll();
            if (!wanted.add(value)) {
                continue;
            }
            for (Block block : graph.blocks) {
                for (Phi phi : block.phis) {
                    if (phi.gives == value) {
                        todo.addAll(phi.takes.values());
                    }
                }
                for (Step step : block.steps) {
                    if (step.gives == value) {
                        todo.addAll(step.used());
                    }
                }
            }
        }
        int before = graph.values();
        for (Block block : graph.blocks) {
            block.phis.removeIf(phi -> !wanted.contains(phi.gives));
            block.steps.removeIf(step -> (step.kind <= 17 || step.kind == 21) && !wanted.contains(step.gives));
        }
        return before - graph.values();
    }

    static int lift(Graph graph) {
        int count = 0;
        for (int n = graph.blocks.size() - 1; n >= 0; n--) {
            Block head = graph.blocks.get(n);
            Set<Block> loop = graph.loop(head);
            List<Block> outside = graph.waysTo(head);
            outside.removeAll(loop);
            if (loop.isEmpty() || outside.size() != 1 || outside.get(0).ways().size() != 1) {
                continue;
            }
            for (Block block : graph.blocks) {
                if (!loop.contains(block)) {
                    continue;
                }
                for (Step step : List.copyOf(block.steps)) {
                    boolean may = step.kind <= 16 && !mayFail(graph, step);
                    for (int value : step.used()) {
                        may = may && !loop.contains(graph.home(value));
                    }
                    if (may) {
                        block.steps.remove(step);
                        outside.get(0).steps.add(step);
                        count++;
                    }
                }
            }
        }
        return count;
    }

    static int merge(Graph graph) {
        int count = 0;
        search:
        while (true) {
            for (Block block : graph.blocks) {
                Block next = block.first;
                if (block.end == 22 && next != block && graph.waysTo(next).size() == 1) {
                    for (Phi phi : next.phis) {
                        graph.replace(phi.gives, phi.takes.get(block));
                    }
                    block.steps.addAll(next.steps);
                    block.end = next.end;
                    block.endValue = next.endValue;
                    block.first = next.first;
                    block.second = next.second;
                    graph.blocks.remove(next);
                    for (Block behind : block.ways()) {
                        for (Phi phi : behind.phis) {
                            phi.takes.put(block, phi.takes.remove(next));
                        }
                    }
                    count++;
                    continue search;
                }
            }
            if (count > 0) {
                graph.number();
            }
            return count;
        }
    }

    // ------------------------------------------------------------------ registers

    static final class Code {
        final List<Step> lines = new ArrayList<>();
        int slots;
        int united;
        int rounds;
    }

    static final class Allocation {
        final Graph graph = new Graph();
        final Graph shape;
        final int k;
        int next;
        int ownFrom;
        final Set<Integer> madeInFour = new HashSet<>();
        final Code code = new Code();
        Map<Integer, Set<Integer>> neighbours;
        Map<Integer, Integer> registers;
        boolean isDone;

        Allocation(Graph of, int k, int mostRounds) {
            this.shape = of;
            this.k = k;
            next = of.limit;
            Map<Block, Block> copies = new HashMap<>();
            for (Block block : of.blocks) {
                Block copy = new Block();
                copy.number = block.number;
                copy.end = block.end;
                copy.endValue = block.endValue;
                for (Step step : block.steps) {
                    copy.steps.add(new Step(step.kind, step.gives, step.left, step.right));
                }
                copies.put(block, copy);
                graph.blocks.add(copy);
            }
            for (Block block : of.blocks) {
                copies.get(block).first = copies.get(block.first);
                copies.get(block).second = copies.get(block.second);
            }
            for (Block block : of.blocks) {
                for (Block from : of.waysTo(block)) {
                    putCopies(block, from, copies.get(from));
                }
            }
            for (int round = 1; round <= mostRounds && !isDone; round++) {
                code.rounds = round;
                round();
            }
            if (isDone) {
                write();
            }
        }

        void putCopies(Block block, Block from, Block into) {
            List<int[]> left = new ArrayList<>();
            for (Phi phi : block.phis) {
                if (phi.takes.get(from) != phi.gives) {
                    left.add(new int[] {phi.gives, phi.takes.get(from)});
                }
            }
            search:
            while (!left.isEmpty()) {
                for (int[] pair : left) {
                    if (left.stream().noneMatch(other -> other[1] == pair[0])) {
                        into.steps.add(new Step(25, pair[0], pair[1], -1));
                        left.remove(pair);
                        continue search;
                    }
                }
                int p = left.get(0)[0];
                int t = next++;
                into.steps.add(new Step(25, t, p, -1));
                for (int[] pair : left) {
                    if (pair[1] == p) {
                        pair[1] = t;
                    }
                }
            }
        }

        Map<Block, Set<Integer>> liveAtBegin;

        /** What is live at the beginning of each block, by going on till nothing is new. */
        void live() {
            liveAtBegin = new HashMap<>();
            for (Block block : graph.blocks) {
                liveAtBegin.put(block, new HashSet<>());
            }
            boolean isNew = true;
            while (isNew) {
                isNew = false;
                for (Block block : graph.blocks) {
                    Set<Integer> live = liveBehind(block);
                    for (int n = block.steps.size() - 1; n >= 0; n--) {
                        live.remove(block.steps.get(n).gives);
                        live.addAll(block.steps.get(n).used());
                    }
                    isNew |= liveAtBegin.get(block).addAll(live);
                }
            }
        }

        Set<Integer> liveBehind(Block block) {
            Set<Integer> live = new HashSet<>();
            for (Block to : block.ways()) {
                live.addAll(liveAtBegin.get(to));
            }
            if (block.endValue >= 0) {
                live.add(block.endValue);
            }
            return live;
        }

        void reckon() {
            live();
            neighbours = new TreeMap<>();
            for (Block block : graph.blocks) {
                for (Step step : block.steps) {
                    if (step.gives >= 0) {
                        neighbours.putIfAbsent(step.gives, new HashSet<>());
                    }
                }
            }
            for (Block block : graph.blocks) {
                Set<Integer> live = liveBehind(block);
                for (int n = block.steps.size() - 1; n >= 0; n--) {
                    Step step = block.steps.get(n);
                    if (step.gives >= 0) {
                        for (int other : live) {
                            if (other != step.gives && !(step.kind == 25 && other == step.left)) {
                                neighbours.get(step.gives).add(other);
                                neighbours.get(other).add(step.gives);
                            }
                        }
                    }
                    live.remove(step.gives);
                    live.addAll(step.used());
                }
            }
        }

        boolean unite() {
            for (Block block : graph.blocks) {
                for (Step step : block.steps) {
                    if (step.kind != 25 || madeInFour.contains(step.gives) || madeInFour.contains(step.left)
                        || neighbours.get(step.gives).contains(step.left)) {
                        continue;
                    }
                    Set<Integer> both = new HashSet<>(neighbours.get(step.gives));
                    both.addAll(neighbours.get(step.left));
                    both.removeIf(value -> neighbours.get(value).size() < k);
                    if (both.size() < k) {
                        int greater = Math.max(step.gives, step.left);
                        int smaller = Math.min(step.gives, step.left);
                        graph.replace(greater, smaller);
                        for (Block other : graph.blocks) {
                            for (Step s : other.steps) {
                                s.gives = s.gives == greater ? smaller : s.gives;
                            }
                            other.steps.removeIf(s -> s.kind == 25 && s.gives == s.left);
                        }
                        code.united++;
                        return true;
                    }
                }
            }
            return false;
        }

        long cost(int value) {
            long cost = 0;
            for (Block block : graph.blocks) {
                long weight = 1;
                for (int n = 0; n < Math.min(4, shape.depth(shape.blocks.get(block.number))); n++) {
                    weight *= 8;
                }
                for (Step step : block.steps) {
                    cost += step.gives == value ? weight : 0;
                    cost += step.used().contains(value) ? weight : 0;
                }
                cost += block.endValue == value ? weight : 0;
            }
            return cost;
        }

        void round() {
            reckon();
            while (unite()) {
                reckon();
            }
            List<Integer> taken = new ArrayList<>();
            Set<Integer> left = new TreeSet<>(neighbours.keySet());
            Map<Integer, Long> costs = new HashMap<>();
            while (!left.isEmpty()) {
                int pick = -1;
                Map<Integer, Integer> degree = new HashMap<>();
                for (int value : left) {
                    int count = 0;
                    for (int other : neighbours.get(value)) {
                        count += left.contains(other) ? 1 : 0;
                    }
                    degree.put(value, count);
                    if (count < k && pick < 0) {
                        pick = value;
                    }
                }
                if (pick < 0) {
                    Set<Integer> among = new TreeSet<>(left);
                    among.removeAll(madeInFour);
                    if (among.isEmpty()) {
                        among = left;
                    }
                    for (int value : among) {
                        costs.computeIfAbsent(value, this::cost);
                        if (pick < 0 || costs.get(value) * degree.get(pick) < costs.get(pick) * degree.get(value)) {
                            pick = value;
                        }
                    }
                }
                left.remove(pick);
                taken.add(pick);
            }
            registers = new HashMap<>();
            for (int n = taken.size() - 1; n >= 0; n--) {
                Set<Integer> used = new HashSet<>();
                for (int other : neighbours.get(taken.get(n))) {
                    used.add(registers.get(other));
                }
                for (int r = 0; r < k; r++) {
                    if (!used.contains(r)) {
                        registers.put(taken.get(n), r);
                        break;
                    }
                }
            }
            isDone = registers.size() == taken.size();
            if (!isDone) {
                Set<Integer> without = new TreeSet<>(taken);
                without.removeAll(registers.keySet());
                putAway(without);
            }
        }

        void putAway(Set<Integer> values) {
            Map<Integer, Integer> slot = new HashMap<>();
            Map<Integer, Integer> number = new HashMap<>();
            for (int value : values) {
                List<Step> givers = new ArrayList<>();
                for (Block block : graph.blocks) {
                    for (Step step : block.steps) {
                        if (step.gives == value) {
                            givers.add(step);
                        }
                    }
                }
                if (givers.size() == 1 && givers.get(0).kind == 0) {
                    number.put(value, givers.get(0).left);
                } else {
                    slot.put(value, code.slots++);
                }
            }
            for (Block block : graph.blocks) {
                List<Step> all = new ArrayList<>();
                for (Step step : block.steps) {
                    for (int value : step.used()) {
                        if (values.contains(value)) {
                            int own = bring(value, slot, number, all);
                            boolean isLeft = step.usesLeft() && step.left == value;
                            boolean isRight = step.usesRight() && step.right == value;
                            step.left = isLeft ? own : step.left;
                            step.right = isRight ? own : step.right;
                        }
                    }
                    if (number.containsKey(step.gives)) {
                        continue;
                    }
                    all.add(step);
                    if (slot.containsKey(step.gives)) {
                        int place = slot.get(step.gives);
                        step.gives = next++;
                        madeInFour.add(step.gives);
                        all.add(new Step(27, -1, step.gives, place));
                    }
                }
                if (values.contains(block.endValue)) {
                    block.endValue = bring(block.endValue, slot, number, all);
                }
                block.steps = all;
            }
        }

        int bring(int value, Map<Integer, Integer> slot, Map<Integer, Integer> number, List<Step> into) {
            int own = next++;
            madeInFour.add(own);
            if (slot.containsKey(value)) {
                into.add(new Step(26, own, slot.get(value), -1));
            } else {
                into.add(new Step(0, own, number.get(value), -1));
            }
            return own;
        }

        void write() {
            // A jump holds the number of its block at first, and then that block's first line.
            Map<Integer, Integer> begins = new HashMap<>();
            List<Step> jumps = new ArrayList<>();
            for (Block block : graph.blocks) {
                begins.put(block.number, code.lines.size());
                for (Step step : block.steps) {
                    int gives = step.gives < 0 ? -1 : registers.get(step.gives);
                    int left = step.usesLeft() ? registers.get(step.left) : step.left;
                    int right = step.usesRight() ? registers.get(step.right) : step.right;
                    if (step.kind != 25 || gives != left) {
                        code.lines.add(new Step(step.kind, gives, left, right));
                    }
                }
                int behind = block.number + 1;
                int value = block.endValue < 0 ? -1 : registers.get(block.endValue);
                int before = code.lines.size();
                if (block.end == 22) {
                    if (block.first.number != behind) {
                        code.lines.add(new Step(22, -1, block.first.number, -1));
                    }
                } else if (block.end == 24) {
                    code.lines.add(new Step(24, -1, value, -1));
                } else if (block.second.number == behind) {
                    code.lines.add(new Step(23, -1, value, block.first.number));
                } else if (block.first.number == behind) {
                    code.lines.add(new Step(28, -1, value, block.second.number));
                } else {
                    code.lines.add(new Step(23, -1, value, block.first.number));
                    code.lines.add(new Step(22, -1, block.second.number, -1));
                }
                jumps.addAll(code.lines.subList(before, code.lines.size()));
            }
            for (Step jump : jumps) {
                if (jump.kind == 22) {
                    jump.left = begins.get(jump.left);
                } else if (jump.kind != 24) {
                    jump.right = begins.get(jump.right);
                }
            }
        }
    }

    // ------------------------------------------------------------------ runs

    static final class Stop extends RuntimeException {
        final int outcome;

        Stop(int outcome) {
            super(null, null, false, false);
            this.outcome = outcome;
        }
    }

    /** What a text does behind a statement. */
    static final class Leave extends RuntimeException {
        final String how;
        final int value;

        Leave(String how, int value) {
            super(null, null, false, false);
            this.how = how;
            this.value = value;
        }
    }

    final class Run {
        int outcome;
        int result;
        int steps;
        int open;
        final int[] memory = new int[16];

        Run() {
        }

        Run(int way, int function, int... told) {
            try {
                int[] arguments = new int[program.get(function).parameters.size()];
                System.arraycopy(told, 0, arguments, 0, arguments.length);
                result = call(way, function, arguments);
            } catch (Stop stop) {
                outcome = stop.outcome;
            }
        }

        int call(int way, int function, int[] arguments) {
            if (open == 8) {
                throw new Stop(3);
            }
            open++;
            int value = way == 0 ? text(program.get(function), arguments)
                : way == 1 ? blocks(graphs.get(function), arguments) : code(codes.get(function), arguments);
            open--;
            return value;
        }

        void step() {
            if (steps == 5000) {
                throw new Stop(2);
            }
            steps++;
        }

        int sum(int kind, int x, int y) {
            Integer n = compute(kind, x, y);
            if (n == null) {
                throw new Stop(1);
            }
            return n;
        }

        int text(Fun fun, int[] arguments) {
            Map<Var, Integer> variables = new HashMap<>();
            for (int n = 0; n < arguments.length; n++) {
                variables.put(fun.variables.get(n), arguments[n]);
            }
            try {
                all(fun.body, variables);
            } catch (Leave leave) {
                return leave.value;
            }
            return 0;
        }

        void all(List<Statement> block, Map<Var, Integer> variables) {
            for (Statement s : block) {
                one(s, variables);
            }
        }

        void one(Statement s, Map<Var, Integer> variables) {
            step();
            switch (s.kind) {
                case "var":
                case "NAME":
                    variables.put(s.var, value(s.first, variables));
                    break;
                case "[": {
                    int x = value(s.first, variables);
                    memory[x & 15] = value(s.second, variables);
                    break;
                }
                case "call":
                    value(s.first, variables);
                    break;
                case "return":
                    throw new Leave("return", value(s.first, variables));
                case "if":
                    if (value(s.first, variables) != 0) {
                        all(s.body, variables);
                    } else if (s.other != null) {
                        all(s.other, variables);
                    }
                    break;
                case "while":
                    while (value(s.first, variables) != 0) {
                        try {
                            all(s.body, variables);
                        } catch (Leave leave) {
                            if (leave.how.equals("break")) {
                                break;
                            }
                            if (leave.how.equals("return")) {
                                throw leave;
                            }
                        }
                    }
                    break;
                default:
                    throw new Leave(s.kind, 0);
            }
        }

        int value(Test test, Map<Var, Integer> variables) {
            step();
            List<Test> kids = test.kids;
            switch (test.op) {
                case "number":
                    return test.number;
                case "name":
                    return variables.get(test.var);
                case "negative":
                    return -value(kids.get(0), variables);
                case "not":
                    return value(kids.get(0), variables) == 0 ? 1 : 0;
                case "word":
                    return memory[value(kids.get(0), variables) & 15];
                case "call": {
                    int[] arguments = new int[kids.size()];
                    for (int n = 0; n < arguments.length; n++) {
                        arguments[n] = value(kids.get(n), variables);
                    }
                    return call(0, test.called.index, arguments);
                }
                case "&&":
                    return value(kids.get(0), variables) != 0 && value(kids.get(1), variables) != 0 ? 1 : 0;
                case "||":
                    return value(kids.get(0), variables) != 0 || value(kids.get(1), variables) != 0 ? 1 : 0;
                default: {
                    int x = value(kids.get(0), variables);
                    return sum(Making.OPERATORS.indexOf(test.op), x, value(kids.get(1), variables));
                }
            }
        }

        int blocks(Graph graph, int[] arguments) {
            Map<Integer, Integer> values = new HashMap<>();
            List<Integer> pending = new ArrayList<>();
            Block from = null;
            Block block = graph.blocks.get(0);
            while (true) {
                Map<Integer, Integer> atOnce = new HashMap<>();
                for (Phi phi : block.phis) {
                    step();
                    atOnce.put(phi.gives, values.get(phi.takes.get(from)));
                }
                values.putAll(atOnce);
                for (Step step : block.steps) {
                    step();
                    Integer given = null;
                    int x = step.usesLeft() ? values.get(step.left) : step.left;
                    int y = step.usesRight() ? values.get(step.right) : step.right;
                    if (step.kind == 0) {
                        given = x;
                    } else if (step.kind <= 16) {
                        given = sum(step.kind, x, y);
                    } else if (step.kind == 17) {
                        given = memory[x & 15];
                    } else if (step.kind == 18) {
                        memory[x & 15] = y;
                    } else if (step.kind == 19) {
                        pending.add(x);
                    } else if (step.kind == 20) {
                        int[] told = pending.stream().mapToInt(n -> n).toArray();
                        pending.clear();
                        given = call(1, x, told);
                    } else {
                        given = arguments[x];
                    }
                    if (given != null) {
                        values.put(step.gives, given);
                    }
                }
                step();
                from = block;
                if (block.end == 24) {
                    return values.get(block.endValue);
                }
                block = block.end == 22 || values.get(block.endValue) != 0 ? block.first : block.second;
            }
        }

        int code(Code code, int[] arguments) {
            int[] r = new int[8];
            int[] slots = new int[code.slots];
            List<Integer> pending = new ArrayList<>();
            int at = 0;
            while (true) {
                step();
                Step line = code.lines.get(at++);
                switch (line.kind) {
                    case 0: r[line.gives] = line.left; break;
                    case 17: r[line.gives] = memory[r[line.left] & 15]; break;
                    case 18: memory[r[line.left] & 15] = r[line.right]; break;
                    case 19: pending.add(r[line.left]); break;
                    case 20: {
                        int[] told = pending.stream().mapToInt(n -> n).toArray();
                        pending.clear();
                        r[line.gives] = call(2, line.left, told);
                        break;
                    }
                    case 21: r[line.gives] = arguments[line.left]; break;
                    case 22: at = line.left; break;
                    case 23: at = r[line.left] != 0 ? line.right : at; break;
                    case 24: return r[line.left];
                    case 25: r[line.gives] = r[line.left]; break;
                    case 26: r[line.gives] = slots[line.left]; break;
                    case 27: slots[line.right] = r[line.left]; break;
                    case 28: at = r[line.left] == 0 ? line.right : at; break;
                    default: r[line.gives] = sum(line.kind, r[line.left], r[line.right]);
                }
            }
        }
    }

    // ------------------------------------------------------------------ the face

    List<Fun> program = new ArrayList<>();
    List<Graph> graphs = new ArrayList<>();
    List<Code> codes;
    int errorAt = -1;
    // So that tests can tell how many rounds a program would need without the bound.
    int mostRounds = 16;
    Run latest = new Run();

    int load(String text) {
        List<Token> tokens = tokens(text);
        errorAt = wrongPlace(text, tokens);
        if (errorAt >= 0) {
            return 1;
        }
        List<Fun> read = new Trees(tokens).program();
        Faults faults = new Faults(read);
        if (!faults.tall.isEmpty()) {
            errorAt = faults.tall.first();
            return 2;
        }
        if (!faults.first.isEmpty()) {
            errorAt = faults.first.firstKey();
            return faults.first.get(errorAt);
        }
        List<Graph> made = new ArrayList<>();
        for (Fun fun : read) {
            Graph graph = new Making(fun).graph();
            if (graph == null) {
                errorAt = fun.place;
                return 6;
            }
            made.add(graph);
        }
        program = read;
        graphs = made;
        codes = null;
        latest = new Run();
        return 0;
    }

    int restore() {
        graphs = new ArrayList<>();
        int count = 0;
        for (Fun fun : program) {
            graphs.add(new Making(fun).graph());
            count += graphs.get(fun.index).blocks.size();
        }
        codes = null;
        return count;
    }

    int pass(int which) {
        int changes = 0;
        for (Graph graph : graphs) {
            switch (which) {
                case 0: changes += fold(graph); break;
                case 1: changes += same(graph); break;
                case 2: changes += drop(graph); break;
                case 3: changes += lift(graph); break;
                default: changes += merge(graph);
            }
        }
        return changes;
    }

    int settle() {
        for (int times = 1;; times++) {
            int changes = 0;
            for (int which = 0; which < 5; which++) {
                changes += pass(which);
            }
            if (changes == 0) {
                return times;
            }
        }
    }

    int allocate(int registers) {
        List<Code> made = new ArrayList<>();
        codes = null;
        int count = 0;
        for (Graph graph : graphs) {
            Allocation allocation = new Allocation(graph, registers, mostRounds);
            if (!allocation.isDone) {
                return -1;
            }
            made.add(allocation.code);
            count += allocation.code.lines.size();
        }
        codes = made;
        return count;
    }

    int run(int way, int function, int a, int b, int c, int d) {
        latest = new Run(way, function, a, b, c, d);
        return latest.outcome;
    }

    int differences(int function, int low, int high) {
        int count = 0;
        for (long x = low; x <= high; x++) {
            Set<List<Integer>> ends = new HashSet<>();
            boolean isLong = false;
            for (int way = 0; way < (codes == null ? 2 : 3); way++) {
                Run run = new Run(way, function, (int) x, low, high, (int) x);
                isLong |= run.outcome == 2;
                List<Integer> end = new ArrayList<>(List.of(run.outcome, run.result));
                for (int word : run.memory) {
                    end.add(word);
                }
                ends.add(end);
            }
            count += !isLong && ends.size() > 1 ? 1 : 0;
        }
        return count;
    }

    double meanCode() {
        if (codes == null) {
            return 0;
        }
        double all = 0;
        for (Code code : codes) {
            all += code.lines.size();
        }
        return all / codes.size();
    }

    private long d;

    private void put(long x) {
        d = d * 31 + x;
    }

    private static int numberOf(Block block) {
        return block == null ? -1 : block.number;
    }

    long digest() {
        d = 58009;
        put(program.size());
        put(errorAt);
        put(latest.outcome);
        put(latest.result);
        put(latest.steps);
        for (int word : latest.memory) {
            put(word);
        }
        for (Fun fun : program) {
            Graph graph = graphs.get(fun.index);
            Code code = codes == null ? new Code() : codes.get(fun.index);
            put(fun.parameters.size());
            put(graph.values());
            put(code.lines.size());
            put(code.slots);
            put(code.united);
            put(code.rounds);
            put(graph.blocks.size());
            for (Block block : graph.blocks) {
                put(numberOf(graph.dominator(block)));
                put(graph.depth(block));
                put(block.phis.size());
                put(block.steps.size());
                put(block.end);
                put(block.endValue);
                put(numberOf(block.first));
                put(numberOf(block.second));
                put(graph.waysTo(block).size());
                for (Block from : graph.waysTo(block)) {
                    put(from.number);
                }
                for (Phi phi : block.phis) {
                    put(phi.gives);
                    for (Block from : graph.waysTo(block)) {
                        put(phi.takes.get(from));
                    }
                }
                putSteps(block.steps);
            }
            putSteps(code.lines);
        }
        return d;
    }

    private void putSteps(List<Step> steps) {
        for (Step step : steps) {
            put(step.kind);
            put(step.gives);
            put(step.left);
            put(step.right);
        }
    }
}
