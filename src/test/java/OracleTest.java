import java.util.Random;

/** Compares a Gearbox with the Oracle over programs and calls made by chance (the same ones each time). */
public final class OracleTest {
    private static int programs;
    private static int allocations;
    private static int failedAllocations;
    private static int mostRounds;
    private static int mostBlocks;
    private static int mostValues;
    private static int mostLines;
    private static final int[] kinds = new int[7];

    public static void main(String[] args) {
        int from = args.length > 0 ? Integer.parseInt(args[0]) : 1;
        int to = args.length > 1 ? Integer.parseInt(args[1]) : 1500;
        Check check = new Check("OracleTest");
        for (int seed = from; seed <= to && check.wrong() < 5; seed++) {
            try {
                one(check, seed);
            } catch (RuntimeException | StackOverflowError e) {
                check.isTrue("seed " + seed + ": " + e, false);
                e.printStackTrace(System.out);
            }
        }
        System.out.println("OracleTest: " + programs + " programs, errors 1 to 6: " + kinds[1] + " " + kinds[2] + " "
            + kinds[3] + " " + kinds[4] + " " + kinds[5] + " " + kinds[6] + ", " + allocations + " allocations, "
            + failedAllocations + " of them without code; at most " + mostBlocks + " blocks, " + mostValues
            + " values, " + mostRounds + " rounds, " + mostLines + " lines");
        check.end();
    }

    private static void one(Check check, int seed) {
        Random random = new Random(seed);
        Programs maker = new Programs(random);
        Gearbox box = new Gearbox();
        Oracle oracle = new Oracle();
        // Now and then one object reads a great many programs.
        int loads = 1 + random.nextInt(seed % 50 == 0 ? 60 : 4);
        for (int n = 0; n < loads; n++) {
            boolean isSloppy = random.nextInt(3) == 0;
            int statements = 1 + random.nextInt(random.nextInt(3) == 0 ? 90 : 25);
            boolean isShuffled = random.nextInt(4) == 0;
            String text = isShuffled ? maker.shuffle() : maker.program(statements, isSloppy);
            for (; text.length() > (isShuffled ? 680 : 1200); statements -= 1 + statements / 20) {
                text = isShuffled ? maker.shuffle() : maker.program(statements, isSloppy);
            }
            if (random.nextInt(25) == 0) {
                text = maker.climb();
            }
            if (random.nextInt(10) == 0) {
                text = maker.spoil(text);
                text = text.substring(0, Math.min(text.length(), 1200));
            }
            String what = "seed " + seed + " load " + n;
            int error = oracle.load(text);
            kinds[error]++;
            programs++;
            check.same(what + ": load of '" + text + "'", Tape.load(box, text), error);
            check.same(what + ": errorAt of '" + text + "'", box.errorAt(), oracle.errorAt);
            check.same(what + ": digest behind load of '" + text + "'", box.digest(), oracle.digest());
            if (check.wrong() > 0) {
                return;
            }
            int calls = random.nextInt(14);
            for (int c = 0; c < calls && check.wrong() == 0; c++) {
                call(check, what + " call " + c, random, box, oracle);
                if (check.wrong() > 0) {
                    System.out.println(what + " call " + c + ": " + text);
                }
            }
        }
    }

    private static void call(Check check, String what, Random random, Gearbox box, Oracle oracle) {
        int functions = oracle.program.size();
        switch (random.nextInt(12)) {
            case 0: check.same(what + " fold", box.fold(), oracle.pass(0)); break;
            case 1: check.same(what + " same", box.same(), oracle.pass(1)); break;
            case 2: check.same(what + " drop", box.drop(), oracle.pass(2)); break;
            case 3: check.same(what + " lift", box.lift(), oracle.pass(3)); break;
            case 4: check.same(what + " merge", box.merge(), oracle.pass(4)); break;
            case 5:
                if (random.nextInt(3) == 0) {
                    check.same(what + " settle", box.settle(), oracle.settle());
                }
                break;
            case 6:
            case 7:
                if (functions > 0) {
                    int k = 3 + random.nextInt(random.nextBoolean() ? 2 : 6);
                    int due = oracle.allocate(k);
                    allocations++;
                    failedAllocations += due < 0 ? 1 : 0;
                    check.same(what + " allocate " + k, box.allocate(k), due);
                    for (int f = 0; f < functions; f++) {
                        mostRounds = Math.max(mostRounds, box.rounds(f));
                        mostLines = Math.max(mostLines, box.lines(f));
                        mostBlocks = Math.max(mostBlocks, box.blocks(f));
                        mostValues = Math.max(mostValues, box.values(f));
                    }
                    check.isTrue(what + " meanCode", box.meanCode() == oracle.meanCode());
                }
                break;
            case 8:
            case 9:
                if (functions > 0) {
                    int way = random.nextInt(oracle.codes == null ? 2 : 3);
                    int f = random.nextInt(functions);
                    int a = number(random);
                    int b = number(random);
                    int c = number(random);
                    int d = number(random);
                    check.same(what + " run " + way, box.run(way, f, a, b, c, d), oracle.run(way, f, a, b, c, d));
                }
                break;
            case 10:
                if (functions > 0) {
                    int f = random.nextInt(functions);
                    int low = number(random);
                    int high = (int) Math.min(Integer.MAX_VALUE, (long) low + random.nextInt(6));
                    int got = box.differences(f, low, high);
                    check.same(what + " differences", got, oracle.differences(f, low, high));
                    check.same(what + " differences of any kind", got, 0);
                }
                break;
            default:
                if (random.nextInt(4) == 0) {
                    check.same(what + " restore", box.restore(), oracle.restore());
                }
        }
        check.same(what + " digest", box.digest(), oracle.digest());
    }

    private static int number(Random random) {
        switch (random.nextInt(6)) {
            case 0: return random.nextInt();
            case 1: return Integer.MIN_VALUE + random.nextInt(3);
            case 2: return Integer.MAX_VALUE - random.nextInt(3);
            default: return random.nextInt(40) - 10;
        }
    }
}
