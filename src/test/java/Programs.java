import java.util.ArrayList;
import java.util.List;
import java.util.Random;

/** Makes texts of programs by chance, but always the same ones for the same seed. */
final class Programs {
    private static final String[] OPERATORS = {"+", "-", "*", "/", "%", "&", "|", "^", "<<", ">>", "<", "<=", ">",
        ">=", "==", "!=", "&&", "||"};

    private final Random random;
    private final StringBuilder text = new StringBuilder();
    private final List<String> seen = new ArrayList<>();
    private int[] parameters;
    private int loops;
    private int open;
    private int left;
    private boolean isSloppy;

    Programs(Random random) {
        this.random = random;
    }

    /** A text of about so many statements; a sloppy one often has errors. */
    String program(int statements, boolean sloppy) {
        text.setLength(0);
        isSloppy = sloppy;
        int functions = 1 + (random.nextInt(3) == 0 ? random.nextInt(6) : random.nextInt(2));
        parameters = new int[functions];
        for (int f = 0; f < functions; f++) {
            parameters[f] = random.nextInt(5);
        }
        for (int f = 0; f < functions; f++) {
            left = Math.max(1, statements / functions);
            function(f);
        }
        return text.toString();
    }

    /** A text in which many variables change places in loops: with many phis, and many copies for them. */
    String shuffle() {
        text.setLength(0);
        seen.clear();
        int count = 3 + random.nextInt(30);
        text.append("fun f(p,q){");
        for (int n = 0; n < count; n++) {
            String name = n < 24 ? String.valueOf((char) ('a' + n + (n > 14 ? 2 : 0))) : "v" + n;
            text.append("var ").append(name).append('=').append(chance(3) ? "p" : chance(2) ? "q" : "" + n).append(';');
            seen.add(name);
        }
        int loopCount = 1 + random.nextInt(3);
        for (int n = 0; n < loopCount; n++) {
            text.append(chance(3) ? "while " + some() + "<9{" : "while p>0{p=p-1;");
            shuffleBody(1 + random.nextInt(9));
        }
        for (int n = 0; n < loopCount; n++) {
            shuffleMoves(random.nextInt(3));
            text.append('}');
        }
        text.append("return ").append(some());
        int sum = random.nextInt(9);
        for (int n = 0; n < sum; n++) {
            text.append(chance(2) ? '+' : '^').append(some());
        }
        text.append(";}");
        return text.toString();
    }

    /** A program that takes a great many rounds, but for some names and statements in it. */
    String climb() {
        StringBuilder all = new StringBuilder(chance(2) ? CodeBoundsTest.SIXTEEN : CodeBoundsTest.SEVENTEEN);
        int changes = random.nextInt(4);
        for (int n = 0; n < changes; n++) {
            int at = 100 + random.nextInt(all.length() - 100);
            boolean isName = Character.isLetter(all.charAt(at)) && !Character.isLetter(all.charAt(at - 1))
                && !Character.isLetter(all.charAt(at + 1));
            if (isName) {
                all.setCharAt(at, "abcdefhijlmntv".charAt(random.nextInt(14)));
            } else if (all.charAt(at) == ';') {
                int from = at - 1;
                while (";{}".indexOf(all.charAt(from)) < 0) {
                    from--;
                }
                all.delete(from + 1, at + 1);
            }
        }
        return all.toString();
    }

    private void shuffleBody(int groups) {
        for (int n = 0; n < groups; n++) {
            shuffleMoves(random.nextInt(6));
            if (chance(3)) {
                text.append("if ").append(some()).append('{');
                shuffleMoves(random.nextInt(4));
                text.append(chance(4) ? "break;}" : chance(2) ? "continue;}" : "}");
            }
        }
    }

    private void shuffleMoves(int moves) {
        for (int n = 0; n < moves; n++) {
            String one = some();
            String other = some();
            if (chance(3)) {
                text.append("q=").append(one).append(';').append(one).append('=').append(other).append(';')
                    .append(other).append("=q;");
            } else {
                text.append(one).append('=').append(other);
                text.append(chance(3) ? "+1;" : ";");
            }
        }
    }

    private boolean chance(int of) {
        return random.nextInt(of) == 0;
    }

    private void put(String word) {
        if (isSloppy && chance(4000)) {
            return;
        }
        int end = text.length() - 1;
        boolean isWord = Character.isLetterOrDigit(word.charAt(0));
        if (end >= 0 && isWord && Character.isLetterOrDigit(text.charAt(end)) && !(isSloppy && chance(2000))) {
            text.append(chance(20) ? '\n' : ' ');
        }
        text.append(word);
        if (isSloppy && chance(30)) {
            text.append(' ');
        }
    }

    private void function(int f) {
        seen.clear();
        loops = 0;
        open = 1;
        put("fun");
        put(isSloppy && chance(60) ? "f0" : "f" + f);
        put("(");
        for (int n = 0; n < parameters[f]; n++) {
            if (n > 0) {
                put(",");
            }
            String name = isSloppy && chance(30) ? "p0" : "p" + n;
            put(name);
            seen.add(name);
        }
        put(")");
        put("{");
        for (int n = 0; left > 0 && n < 60; n++) {
            statement();
        }
        if (chance(2)) {
            put("return");
            test(2);
            put(";");
        }
        put("}");
    }

    private void block() {
        int before = seen.size();
        put("{");
        open++;
        int count = random.nextInt(5);
        for (int n = 0; n < count && left > 0; n++) {
            statement();
        }
        open--;
        put("}");
        while (seen.size() > before) {
            seen.remove(seen.size() - 1);
        }
    }

    private String fresh() {
        for (int n = 0; n < 200; n++) {
            String name = String.valueOf((char) ('a' + random.nextInt(26)));
            if (name.equals("p")) {
                name = "v" + random.nextInt(20);
            }
            if (!seen.contains(name)) {
                return name;
            }
        }
        return "zz" + random.nextInt(1000);
    }

    private String some() {
        if (seen.isEmpty() || isSloppy && chance(900)) {
            return isSloppy ? "nobody" : null;
        }
        // The latest ones more often, so that their values live on and meet.
        int back = random.nextInt(Math.min(seen.size(), 1 + random.nextInt(12)));
        return seen.get(seen.size() - 1 - back);
    }

    private void statement() {
        left--;
        int kind = random.nextInt(20);
        String name = some();
        if (kind < 5) {
            String own = isSloppy && chance(150) && name != null ? name : fresh();
            put("var");
            put(own);
            put("=");
            test(1 + random.nextInt(3));
            put(";");
            seen.add(own);
        } else if (kind < 10 && name != null) {
            put(name);
            put("=");
            test(random.nextInt(4));
            put(";");
        } else if (kind < 12) {
            put("[");
            test(random.nextInt(2));
            put("]");
            put("=");
            test(random.nextInt(3));
            put(";");
        } else if (kind < 13) {
            call(2);
            put(";");
        } else if (kind < 16 && (open < 7 || isSloppy)) {
            put("if");
            test(random.nextInt(3));
            block();
            if (chance(2)) {
                put("else");
                block();
            }
        } else if (kind < 18 && (open < 7 || isSloppy)) {
            loop(name);
        } else if (kind == 18 && (loops > 0 || isSloppy && chance(10))) {
            put(chance(2) ? "break" : "continue");
            put(";");
        } else if (kind == 19 && chance(3)) {
            put("return");
            test(2);
            put(";");
        }
    }

    // Mostly loops that end: each round counts a variable down.
    private void loop(String name) {
        loops++;
        put("while");
        if (name == null || chance(4)) {
            test(2);
            block();
        } else {
            put(name);
            put(">");
            put("0");
            put("{");
            put(name);
            put("=");
            put(name);
            put(chance(3) ? ">>" : "-");
            put(String.valueOf(1 + random.nextInt(3)));
            put(";");
            int before = seen.size();
            open++;
            int count = random.nextInt(5);
            for (int n = 0; n < count && left > 0; n++) {
                statement();
            }
            open--;
            put("}");
            while (seen.size() > before) {
                seen.remove(seen.size() - 1);
            }
        }
        loops--;
    }

    private void call(int height) {
        int f = random.nextInt(parameters.length);
        put("f" + f);
        put("(");
        open++;
        int count = parameters[f] + (isSloppy && chance(40) ? 1 : 0);
        for (int n = 0; n < count; n++) {
            if (n > 0) {
                put(",");
            }
            test(Math.max(0, height - 1));
        }
        open--;
        put(")");
    }

    private void test(int height) {
        int kind = random.nextInt(12);
        if (height <= 0 || kind < 3) {
            single();
        } else if (kind < 10) {
            int count = 1 + (chance(4) ? random.nextInt(isSloppy ? 12 : 4) : 0);
            operand(height - 1);
            for (int n = 0; n < count; n++) {
                String operator = OPERATORS[random.nextInt(OPERATORS.length)];
                if (count > 1 && isComparison(operator) && !(isSloppy && chance(10))) {
                    operator = "+";
                }
                if (operator.equals("/") || operator.equals("%")) {
                    operator = chance(2) ? operator : "+";
                }
                put(operator);
                operand(height - 1);
            }
        } else if (kind < 11) {
            put(chance(2) ? "-" : "!");
            operand(height - 1);
        } else {
            operand(height);
        }
    }

    // Comparisons do not stand in a row.
    private static boolean isComparison(String operator) {
        return List.of("<", "<=", ">", ">=", "==", "!=").contains(operator);
    }

    private void operand(int height) {
        if (height > 0 && chance(2) && (open < 7 || isSloppy)) {
            if (chance(6)) {
                call(height);
                return;
            }
            open++;
            boolean isWord = chance(5);
            put(isWord ? "[" : "(");
            test(height - 1);
            put(isWord ? "]" : ")");
            open--;
        } else {
            single();
        }
    }

    private void single() {
        String name = some();
        if (name != null && !chance(4)) {
            put(name);
        } else if (chance(2)) {
            put(String.valueOf(random.nextInt(3)));
        } else {
            put(String.valueOf(chance(3) ? random.nextInt(1000000000) : random.nextInt(40)));
        }
    }

    /** Changes some bytes of a text. */
    String spoil(String program) {
        StringBuilder all = new StringBuilder(program);
        String bytes = "(){}[],;=+-*/%&|^!<>ab0 \n?#A";
        int count = 1 + random.nextInt(2);
        for (int n = 0; n < count && all.length() > 0; n++) {
            int at = random.nextInt(all.length());
            char other = bytes.charAt(random.nextInt(bytes.length()));
            switch (random.nextInt(5)) {
                case 0: all.setCharAt(at, other); break;
                case 1: all.insert(at, other); break;
                case 2: all.deleteCharAt(at); break;
                case 3: all.setLength(at); break;
                default:
                    int to = Math.min(all.length(), at + 1 + random.nextInt(20));
                    all.insert(random.nextInt(all.length()), all.substring(at, to));
            }
        }
        return all.toString();
    }
}
