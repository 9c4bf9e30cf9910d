/** Writes what a Gearbox answers about blocks and code as a text, a block or a line of code each. */
final class Dump {
    private static final String[] SIGNS = {"", "+", "-", "*", "/", "%", "&", "|", "^", "<<", ">>", "<", "<=", ">",
        ">=", "==", "!="};

    private Dump() {
    }

    /** Such as "1 under 0 depth 1 from 0 2: v2=phi(v0,v3) v4=v2%v3 [v4]=v2 ? v4 2 3". */
    static String blocks(Gearbox box, int f) {
        StringBuilder all = new StringBuilder();
        for (int b = 0; b < box.blocks(f); b++) {
            all.append(b).append(" under ").append(box.dominatorOf(f, b)).append(" depth ")
                .append(box.depthOf(f, b)).append(" from");
            for (int place = 0; place < box.predecessors(f, b); place++) {
                all.append(' ').append(box.predecessor(f, b, place));
            }
            all.append(':');
            for (int phi = 0; phi < box.phis(f, b); phi++) {
                all.append(" v").append(box.phiGives(f, b, phi)).append("=phi(");
                for (int place = 0; place < box.predecessors(f, b); place++) {
                    all.append(place > 0 ? "," : "").append('v').append(box.phiTakes(f, b, phi, place));
                }
                all.append(')');
            }
            for (int s = 0; s < box.steps(f, b); s++) {
                all.append(' ').append(step(box.kindOf(f, b, s), "v", box.gives(f, b, s), box.leftOf(f, b, s),
                    box.rightOf(f, b, s)));
            }
            all.append(' ').append(end(box, f, b)).append('\n');
        }
        return all.toString();
    }

    /** All that a Gearbox tells, but for its tape and errorAt(). */
    static String all(Gearbox box) {
        StringBuilder all = new StringBuilder();
        all.append(box.functions()).append(" functions, outcome ").append(box.outcome()).append(" result ")
            .append(box.result()).append(" steps ").append(box.stepsRun()).append(" mean ").append(box.meanCode())
            .append(" words");
        for (int place = 0; place < 16; place++) {
            all.append(' ').append(box.word(place));
        }
        for (int f = 0; f < box.functions(); f++) {
            all.append("\nfunction ").append(f).append(" of ").append(box.parametersOf(f)).append(": values ")
                .append(box.values(f)).append(" slots ").append(box.slots(f)).append(" united ").append(box.united(f))
                .append(" rounds ").append(box.rounds(f)).append('\n').append(blocks(box, f)).append(code(box, f));
        }
        return all.toString();
    }

    private static String end(Gearbox box, int f, int b) {
        int first = box.successor(f, b, false);
        int second = box.successor(f, b, true);
        int value = box.endValue(f, b);
        switch (box.endOf(f, b)) {
            case 22: return "go " + first + (second == -1 && value == -1 ? "" : " wrong");
            case 23: return "? v" + value + " " + first + " " + second;
            case 24: return "return v" + value + (first == -1 && second == -1 ? "" : " wrong");
            default: return "no end";
        }
    }

    private static String step(int kind, String mark, int gives, int left, int right) {
        String given = gives < 0 ? "" : mark + gives + "=";
        String x = mark + left;
        String y = mark + right;
        boolean hasRight = kind >= 1 && kind <= 16 || kind == 18 || kind == 23 || kind == 27 || kind == 28;
        String odd = hasRight == (right != -1) ? "" : " wrong";
        switch (kind) {
            case 0: return given + left + odd;
            case 17: return given + "[" + x + "]" + odd;
            case 18: return given + "[" + x + "]=" + y + odd;
            case 19: return given + "arg(" + x + ")" + odd;
            case 20: return given + "call" + left + odd;
            case 21: return given + "par" + left + odd;
            case 22: return given + "go " + left + odd;
            case 23: return given + "if " + x + " go " + right + odd;
            case 24: return given + "return " + x + odd;
            case 25: return given + x + odd;
            case 26: return given + "slot" + left + odd;
            case 27: return given + "slot" + right + "=" + x + odd;
            case 28: return given + "if !" + x + " go " + right + odd;
            default: return given + x + SIGNS[kind] + y + odd;
        }
    }

    static String code(Gearbox box, int f) {
        StringBuilder all = new StringBuilder();
        for (int line = 0; line < box.lines(f); line++) {
            all.append(step(box.codeKind(f, line), "r", box.codeGives(f, line), box.codeLeft(f, line),
                box.codeRight(f, line))).append('\n');
        }
        return all.toString();
    }

    private static long digest;

    private static void put(long x) {
        digest = digest * 31 + x;
    }

    /** The checksum out of what the other calls answer. */
    static long digest(Gearbox box) {
        digest = 58009;
        put(box.functions());
        put(box.errorAt());
        put(box.outcome());
        put(box.result());
        put(box.stepsRun());
        for (int place = 0; place < 16; place++) {
            put(box.word(place));
        }
        for (int f = 0; f < box.functions(); f++) {
            put(box.parametersOf(f));
            put(box.values(f));
            put(box.lines(f));
            put(box.slots(f));
            put(box.united(f));
            put(box.rounds(f));
            put(box.blocks(f));
            for (int b = 0; b < box.blocks(f); b++) {
                put(box.dominatorOf(f, b));
                put(box.depthOf(f, b));
                put(box.phis(f, b));
                put(box.steps(f, b));
                put(box.endOf(f, b));
                put(box.endValue(f, b));
                put(box.successor(f, b, false));
                put(box.successor(f, b, true));
                put(box.predecessors(f, b));
                for (int place = 0; place < box.predecessors(f, b); place++) {
                    put(box.predecessor(f, b, place));
                }
                for (int phi = 0; phi < box.phis(f, b); phi++) {
                    put(box.phiGives(f, b, phi));
                    for (int place = 0; place < box.predecessors(f, b); place++) {
                        put(box.phiTakes(f, b, phi, place));
                    }
                }
                for (int s = 0; s < box.steps(f, b); s++) {
                    put(box.kindOf(f, b, s));
                    put(box.gives(f, b, s));
                    put(box.leftOf(f, b, s));
                    put(box.rightOf(f, b, s));
                }
            }
            for (int line = 0; line < box.lines(f); line++) {
                put(box.codeKind(f, line));
                put(box.codeGives(f, line));
                put(box.codeLeft(f, line));
                put(box.codeRight(f, line));
            }
        }
        return digest;
    }
}
