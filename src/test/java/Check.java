import java.io.IOException;
import java.io.UncheckedIOException;
import java.nio.file.Files;
import java.nio.file.Path;

/** Counts answers that are not the ones that are due. */
final class Check {
    private static final Path DOCUMENT = Path.of("../shared/DOC.md");

    private final String test;
    private String document;
    private String sentence;
    private int sentences;
    private int wrong;
    private int looks;

    Check(String test) {
        this.test = test;
    }

    /** The sentence of the document, or the part of one, that the looks behind this are about: it must stand there. */
    void says(String words) {
        sentence = words;
        sentences++;
        if (document == null && Files.exists(DOCUMENT)) {
            document = plain(read(DOCUMENT));
        }
        if (document != null) {
            isTrue("that the document says so", document.contains(plain(words)));
        }
    }

    private static String plain(String text) {
        return text.replaceAll("\\s+", " ").trim();
    }

    private static String read(Path file) {
        try {
            return Files.readString(file);
        } catch (IOException e) {
            throw new UncheckedIOException(e);
        }
    }

    void same(String what, long got, long due) {
        looks++;
        if (got != due) {
            say(what + " answered " + got + ", due is " + due);
        }
    }

    void isTrue(String what, boolean holds) {
        looks++;
        if (!holds) {
            say(what + " does not hold");
        }
    }

    /** A call that is to throw just this exception. */
    void raises(String what, Class<? extends Throwable> due, Runnable call) {
        looks++;
        try {
            call.run();
            say(what + " threw nothing, due is " + due.getSimpleName());
        } catch (Throwable got) {
            if (got.getClass() != due) {
                say(what + " threw " + got.getClass().getSimpleName() + ", due is " + due.getSimpleName());
            }
        }
    }

    /** A call that throws just this exception, and changes nothing that other calls tell. */
    void refuses(String what, Gearbox box, Class<? extends Throwable> due, Runnable call) {
        String before = Dump.all(box);
        long digest = box.digest();
        raises(what, due, call);
        same("digest behind " + what, box.digest(), digest);
        same("what there is behind " + what, Dump.all(box), before);
    }

    void same(String what, String got, String due) {
        looks++;
        if (!got.equals(due)) {
            say(what + ": due is\n" + due + "\nthere is\n" + got);
        }
    }

    private void say(String what) {
        wrong++;
        if (wrong <= 50) {
            System.out.println(test + ": " + what + (sentence == null ? "" : "\n    of: " + sentence));
        }
    }

    int wrong() {
        return wrong;
    }

    void end() {
        String about = sentences == 0 ? "" : sentences + " sentences, ";
        System.out.println(test + ": " + about + looks + " looks, " + wrong + " wrong");
        System.exit(wrong == 0 ? 0 : 1);
    }
}
