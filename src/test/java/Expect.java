import java.util.Objects;

/** What the tests share: comparing answers, and ending with exit code 1 if one was wrong. */
final class Expect {
    static final int[] NOT_PROCESSES = {-1, 4, 5, Integer.MIN_VALUE, Integer.MAX_VALUE};

    private static final int[] VIEW_TIMES = {-1, 10, 33, 45, 60, 200};

    private static int right = 0;
    private static int wrong = 0;

    private Expect() {
    }

    static void same(String call, Object got, Object due) {
        if (Objects.equals(got, due)) {
            right++;
            return;
        }
        wrong++;
        System.out.println(call + " answered " + got + ", due is " + due);
    }

    /** The 'what' of an inject. */
    static int what(int value, int life) {
        return value | (life << 4);
    }

    /** Much of what can be seen of an object, in 51 calls: only 512 are promised for one object. */
    static String view(OptimisticSim sim) {
        StringBuilder text = new StringBuilder();
        text.append("horizon ").append(sim.horizon());
        text.append(" events ").append(sim.events());
        text.append(" last ").append(sim.lastTime());
        for (int process = 0; process < 4; process++) {
            text.append(" |");
            for (int time : VIEW_TIMES) {
                text.append(' ').append(sim.state(process, time));
                text.append('/').append(sim.handled(process, time));
            }
        }
        return text.toString();
    }

    static void end(String test) {
        System.out.println(test + ": " + right + " answers right, " + wrong + " wrong");
        if (wrong != 0 || right == 0) {
            System.exit(1);
        }
    }
}
