import java.util.function.Consumer;

/**
 * Nearly all that calls can tell of an object with a given past (not every inject is tried). Each look is at a new
 * object, as one object is used for at most 512 calls: a past has at most 200.
 */
final class Sight {
    private Sight() {
    }

    static String of(Consumer<OptimisticSim> past) {
        StringBuilder text = new StringBuilder();
        totals(made(past), text);
        for (int process = 0; process < 4; process++) {
            states(made(past), process, text);
            counts(made(past), process, text);
        }
        commits(made(past), text);
        room(made(past), text);
        firstTime(made(past), text);
        rules(made(past), text);
        return text.toString();
    }

    private static OptimisticSim made(Consumer<OptimisticSim> past) {
        OptimisticSim sim = new OptimisticSim();
        past.accept(sim);
        return sim;
    }

    private static void totals(OptimisticSim sim, StringBuilder text) {
        text.append("horizon ").append(sim.horizon());
        text.append(" events ").append(sim.events());
        text.append(" lastTime ").append(sim.lastTime());
    }

    private static void states(OptimisticSim sim, int process, StringBuilder text) {
        text.append("\nstates of ").append(process);
        for (int time = -2; time <= 201; time++) {
            text.append(' ').append(sim.state(process, time));
        }
    }

    private static void counts(OptimisticSim sim, int process, StringBuilder text) {
        text.append("\nhandled by ").append(process);
        for (int time = -2; time <= 201; time++) {
            text.append(' ').append(sim.handled(process, time));
        }
    }

    private static void commits(OptimisticSim sim, StringBuilder text) {
        text.append("\ncommits");
        for (int time = 0; time <= 200; time++) {
            text.append(' ').append(sim.commit(time));
        }
    }

    private static void room(OptimisticSim sim, StringBuilder text) {
        text.append("\nlocked ").append(sim.rule(0, 0, 1, 15)).append(" room");
        for (int i = 0; i < 26; i++) {
            text.append(' ').append(sim.inject(i % 4, 99, Expect.what(i % 16, 3)));
        }
        for (int process = 0; process < 4; process++) {
            text.append(' ').append(sim.state(process, 200));
        }
    }

    // An event at the first time that is left puts all later handling to the test.
    private static void firstTime(OptimisticSim sim, StringBuilder text) {
        int horizon = sim.horizon();
        text.append("\nfirst time ").append(sim.inject(0, horizon, 0));
        for (int process = 0; process < 4; process++) {
            text.append(' ').append(sim.inject(process, horizon + 1, Expect.what(5 + process, 3)));
        }
        for (int process = 0; process < 4; process++) {
            text.append(' ').append(sim.state(process, 200)).append('/').append(sim.handled(process, 200));
        }
    }

    // States 1, 2, 4 and 8 show the mask's bits, 16 the target and the delay.
    private static void rules(OptimisticSim sim, StringBuilder text) {
        for (int process = 0; process < 4; process++) {
            text.append("\nrule of ").append(process);
            for (int state = 1; state <= 16; state *= 2) {
                sim.clear();
                sim.inject(process, 10, Expect.what(state - 1, 1));
                text.append(' ').append(sim.events()).append('@').append(sim.lastTime());
            }
            for (int target = 0; target < 4; target++) {
                text.append(' ').append(sim.handled(target, 200));
            }
        }
    }
}
