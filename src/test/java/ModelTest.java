/** Long runs of mixed calls, each answer compared with the model's. */
public final class ModelTest {
    private static final int RUNS = 1500;
    private static final int CALLS = 512;

    private long seed;
    private int span;
    private int commits;
    private OptimisticSim sim;
    private Model model;

    public static void main(String[] args) {
        for (int run = 1; run <= RUNS; run++) {
            new ModelTest().run(run);
        }
        Expect.end("ModelTest");
    }

    private void run(int number) {
        seed = number;
        // Narrow spans of time bring many equal times, wide ones reach all edges.
        span = number % 3 == 0 ? 6 : number % 3 == 1 ? 40 : 102;
        commits = number % 4;
        sim = new OptimisticSim();
        model = new Model();
        int calls = 0;
        for (int process = 0; process < 4 && number % 5 != 0; process++) {
            int mask = below(3) == 0 ? below(16) : below(3);
            rule(process, below(4), 1 + below(9), mask);
            calls++;
        }
        for (; calls < CALLS; calls++) {
            step();
        }
    }

    private void step() {
        int kind = below(100);
        if (kind < 25) {
            inject(process(), time(span) - 1, below(4) == 0 ? wild() : 48 + below(16));
        } else if (kind < 45) {
            state(process(), asked());
        } else if (kind < 60) {
            handled(process(), asked());
        } else if (kind < 75) {
            work(process(), below(5) == 0 ? wild() : below(6));
        } else if (kind < 80) {
            Expect.same("events()", sim.events(), model.events());
        } else if (kind < 85) {
            Expect.same("lastTime()", sim.lastTime(), model.lastTime());
        } else if (kind < 88) {
            Expect.same("horizon()", sim.horizon(), model.horizon());
        } else if (kind < 93) {
            rule(process(), process(), below(12), below(19) - 1);
        } else if (kind < 93 + commits) {
            int ahead = below(4) == 0 ? time(span) * 2 - 2 : model.horizon() + below(4) - 1;
            commit(ahead);
        } else if (kind == 99 && below(2) == 0) {
            sim.clear();
            model.clear();
        }
    }

    private void rule(int process, int target, int delay, int mask) {
        Expect.same("rule", sim.rule(process, target, delay, mask), model.rule(process, target, delay, mask));
    }

    private void inject(int process, int time, int what) {
        String call = "inject(" + process + ", " + time + ", " + what + ")";
        Expect.same(call, sim.inject(process, time, what), model.inject(process, time, what));
    }

    private void work(int process, int n) {
        Expect.same("work(" + process + ", " + n + ")", sim.work(process, n), model.work(process, n));
    }

    private void commit(int time) {
        Expect.same("commit(" + time + ")", sim.commit(time), model.commit(time));
    }

    private void state(int process, int time) {
        Expect.same("state(" + process + ", " + time + ")", sim.state(process, time), model.state(process, time));
    }

    private void handled(int process, int time) {
        Expect.same("handled(" + process + ", " + time + ")", sim.handled(process, time), model.handled(process, time));
    }

    private int process() {
        return below(30) == 0 ? wild() : below(25) == 0 ? below(6) - 1 : below(4);
    }

    private int asked() {
        return below(10) == 0 ? 195 + below(10) : time(span + 30) - 2;
    }

    private int time(int most) {
        return below(40) == 0 ? wild() : below(most);
    }

    private int wild() {
        next();
        return (int) (seed >> 16);
    }

    private int below(int bound) {
        next();
        return (int) ((seed >>> 33) % bound);
    }

    // A fixed sequence, so that every run of the tests makes the same calls.
    private void next() {
        seed = seed * 6364136223846793005L + 1442695040888963407L;
    }
}
