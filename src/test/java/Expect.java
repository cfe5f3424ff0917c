import java.util.Objects;
import java.util.function.Consumer;
import java.util.function.ToIntFunction;

/** What the tests share: comparing answers, and ending with exit code 1 if one was wrong. */
final class Expect {
    static final int[] PROCESS_EDGES = {0, 3};
    static final int[] NOT_PROCESSES = {-1, 4, 5, Integer.MIN_VALUE, Integer.MAX_VALUE};

    private static int right = 0;
    private static int wrong = 0;
    private static int emptySentences = 0;

    private Expect() {
    }

    /** Runs the test of one sentence of the document and tells whether the sentence holds. */
    static void sentence(String sentence, Runnable test) {
        int rightBefore = right;
        int wrongBefore = wrong;
        test.run();
        // A test that compares nothing would let the sentence be broken.
        boolean empty = right + wrong == rightBefore + wrongBefore;
        if (empty) {
            emptySentences++;
        }
        boolean holds = !empty && wrong == wrongBefore;
        System.out.println((holds ? "  holds: " : "  BROKEN: ") + sentence);
    }

    static void same(String call, Object got, Object due) {
        if (Objects.equals(got, due)) {
            right++;
            return;
        }
        wrong++;
        System.out.println(call + " answered " + got + ", due is " + due);
    }

    /** The call is refused with the answer that is due, and changes nothing that any call answers. */
    static void refused(String text, Consumer<OptimisticSim> past, ToIntFunction<OptimisticSim> call, int due) {
        OptimisticSim sim = new OptimisticSim();
        past.accept(sim);
        same(text, call.applyAsInt(sim), due);
        unchanged(text, past, call::applyAsInt);
    }

    /** The calls change nothing that any call answers. */
    static void unchanged(String text, Consumer<OptimisticSim> past, Consumer<OptimisticSim> calls) {
        same("all calls behind " + text, Sight.of(past.andThen(calls)), Sight.of(past));
    }

    /** The 'what' of an inject. */
    static int what(int value, int life) {
        return value | (life << 4);
    }

    static void end(String test) {
        System.out.println(test + ": " + right + " answers right, " + wrong + " wrong");
        if (wrong != 0 || right == 0 || emptySentences != 0) {
            System.exit(1);
        }
    }
}
