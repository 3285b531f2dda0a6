import java.util.function.Supplier;
import java.util.function.ToIntFunction;

// Compares answers with those that are due, and tells which sentence of the document is broken.
final class Due {
    static final int BAD_ARG = -1;
    static final int FULL = -2;
    static final int NONE = -4;
    static final int LOWEST = Integer.MIN_VALUE;
    static final int HIGHEST = Integer.MAX_VALUE;

    private static String sentence = "";
    private static int sentences = 0;
    private static int wrong = 0;

    private Due() {
    }

    // A test that throws is counted as one wrong answer, so that the others are still run.
    static void sentence(String words, Runnable test) {
        sentence = words;
        sentences++;
        try {
            test.run();
        } catch (RuntimeException thrown) {
            tell("threw " + thrown);
        }
    }

    static void is(String what, int got, int want) {
        if (got != want) {
            tell(what + " answered " + got + ", due is " + want);
        }
    }

    static void is(String what, String got, String want) {
        if (!got.equals(want)) {
            tell(what + " is " + got + ", due is " + want);
        }
    }

    // A call that answers this and changes nothing: a refused one, or a question.
    static void leaves(String what, Supplier<Bells> made, ToIntFunction<Bells> call, int want) {
        Bells tried = made.get();
        is(what, call.applyAsInt(tried), want);
        is("the state after " + what, tried.takenApart(), made.get().takenApart());
    }

    // All wrong values near the range from low to high, far from it, and those that would be
    // right if only their last 8 or 16 bits, or all but the sign, were looked at.
    static int[] outside(int low, int high) {
        return new int[] {low - 1, low - 2, low - 256, low - 65536, LOWEST, LOWEST + low,
            LOWEST + high, high + 1, high + 2, low + 256, high + 256, low + 65536, high + 65536,
            HIGHEST - 1, HIGHEST};
    }

    private static void tell(String fault) {
        wrong++;
        System.out.println("'" + sentence + "': " + fault);
    }

    static void end() {
        System.out.println(sentences + " sentences, wrong answers: " + wrong);
        if (wrong != 0) {
            System.exit(1);
        }
    }
}
