/** Promises 1 to 3: a new object, feed, trim. */
public final class TapeTest {
    public static void main(String[] args) {
        Check check = new Check("TapeTest");
        newObject(check);
        feeding(check);
        trimming(check);
        bytes(check);
        check.end();
    }

    private static void newObject(Check check) {
        Gearbox box = new Gearbox();
        check.same("functions of a new object", box.functions(), 0);
        check.same("errorAt of a new object", box.errorAt(), -1);
        check.same("outcome of a new object", box.outcome(), 0);
        check.same("result of a new object", box.result(), 0);
        check.same("stepsRun of a new object", box.stepsRun(), 0);
        for (int place = 0; place < 16; place++) {
            check.same("word " + place + " of a new object", box.word(place), 0);
        }
        check.isTrue("meanCode of a new object is 0", box.meanCode() == 0.0);
        check.same("trim(0) of a new object", box.trim(0), 0);
        check.raises("trim(1) of a new object", IllegalArgumentException.class, () -> box.trim(1));
        check.raises("blocks(0) of a new object", IndexOutOfBoundsException.class, () -> box.blocks(0));
        check.raises("allocate(3) of a new object", IllegalStateException.class, () -> box.allocate(3));
        check.raises("run of a new object", IndexOutOfBoundsException.class, () -> box.run(0, 0, 0, 0, 0, 0));
        check.same("fold of a new object", box.fold(), 0);
        check.same("same of a new object", box.same(), 0);
        check.same("drop of a new object", box.drop(), 0);
        check.same("lift of a new object", box.lift(), 0);
        check.same("merge of a new object", box.merge(), 0);
        check.same("settle of a new object", box.settle(), 1);
        check.same("restore of a new object", box.restore(), 0);
        check.same("load of a new object", box.load(), 1);
        check.same("errorAt of an empty tape", box.errorAt(), 0);
    }

    private static void feeding(Check check) {
        Gearbox box = new Gearbox();
        for (int n = 1; n <= 60; n++) {
            check.same("feed " + n, box.feed(0x20202020, 0x20202020, 0x20202020, 0x20202020, 0x20202020), 20 * n);
        }
        check.raises("feed behind 1200 bytes", IllegalStateException.class, () -> box.feed(0, 0, 0, 0, 0));
        check.same("trim to all that there is", box.trim(1200), 1200);
        check.same("trim", box.trim(1181), 1181);
        check.raises("feed behind 1181 bytes", IllegalStateException.class, () -> box.feed(0, 0, 0, 0, 0));
        check.same("the tape is as long as before", box.trim(1181), 1181);
        check.same("trim to 1180", box.trim(1180), 1180);
        check.same("feed behind 1180 bytes", box.feed(0, 0, 0, 0, 0), 1200);
        check.same("load", box.load(), 1);
        check.same("the first byte that is no blank", box.errorAt(), 1180);
        check.same("load empties the tape", box.trim(0), 0);
        check.raises("load empties the tape, so it cannot be trimmed", IllegalArgumentException.class,
            () -> box.trim(1));
    }

    private static void trimming(Check check) {
        Gearbox box = new Gearbox();
        box.feed(1, 2, 3, 4, 5);
        check.raises("trim to less than nothing", IllegalArgumentException.class, () -> box.trim(-1));
        check.raises("trim to the least int", IllegalArgumentException.class, () -> box.trim(Integer.MIN_VALUE));
        check.raises("trim to more than there is", IllegalArgumentException.class, () -> box.trim(21));
        check.same("a wrong trim changes nothing", box.trim(20), 20);
        check.same("trim to 7", box.trim(7), 7);
        check.raises("trim to what was there", IllegalArgumentException.class, () -> box.trim(8));
        check.same("feed behind 7 bytes", box.feed(0, 0, 0, 0, 0), 27);
        check.same("trim to nothing", box.trim(0), 0);
    }

    private static void bytes(Check check) {
        Gearbox box = new Gearbox();
        // "fun " "m(){" "retu" "rn 1" "2;} ": each number's highest byte first.
        box.feed(0x66756e20, 0x6d28297b, 0x72657475, 0x726e2031, 0x323b7d20);
        check.same("load", box.load(), 0);
        box.run(0, 0, 0, 0, 0, 0);
        check.same("result", box.result(), 12);
        box.feed(0x66756e20, 0x6d28297b, 0x72657475, 0x726e2031, 0xff3b7d20);
        check.same("load with a byte of 255", box.load(), 1);
        check.same("its place", box.errorAt(), 16);
    }
}
