import java.io.IOException;
import java.nio.file.Files;
import java.nio.file.Path;
import java.util.function.IntUnaryOperator;

/** Counts answers that are not the ones that are due, and tells them. */
final class Due {
    private int wrong = 0;
    private int asked = 0;
    private String part = "";
    private String doc = "";

    void part(String name) {
        part = name;
    }

    /** Begins the test of a sentence, which must stand in the document word for word. */
    void sentence(String words) {
        part = words;
        if (doc.isEmpty()) doc = document();
        holds("does not stand in the document", doc.contains(words));
    }

    private static String document() {
        try {
            return Files.readString(Path.of("../shared/DOC.md")).replaceAll("\\s+", " ");
        } catch (IOException gone) {
            return "no document";
        }
    }

    void is(String call, long got, long want) {
        asked++;
        if (got == want) return;
        wrong++;
        System.out.println(part + ": " + call + " answered " + got + ", due is " + want);
    }

    /** The same answer is due for each of some numbers. */
    void each(String call, int[] numbers, IntUnaryOperator ask, int want) {
        for (int number : numbers) is(call + " of " + number, ask.applyAsInt(number), want);
    }

    int asked() {
        return asked;
    }

    void holds(String what, boolean good) {
        asked++;
        if (good) return;
        wrong++;
        System.out.println(part + ": " + what);
    }

    /** Ends the program with exit code 1, if an answer was wrong. */
    void end() {
        System.out.println(asked + " asked, " + wrong + " wrong");
        if (wrong != 0) System.exit(1);
    }
}
