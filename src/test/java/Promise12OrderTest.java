import java.util.function.Consumer;

/** Promise 12: in each call refusals are tested in the order in which they are named. */
public final class Promise12OrderTest {
    private static final int LEAST = Integer.MIN_VALUE;
    private static final int MOST = Integer.MAX_VALUE;
    private static final int[] PROCESSES = {LEAST, -1, 0, 3, 4, MOST};
    private static final int[] DELAYS = {LEAST, 0, 1, 9, 10, MOST};
    private static final int[] MASKS = {LEAST, -1, 0, 15, 16, MOST};
    private static final int[] HORIZONS = {-1, 0, 20, 98, 99, 100, 200};

    public static void main(String[] args) {
        Expect.sentence("rule: BAD_PROCESS before BAD_NUMBER", Promise12OrderTest::ruleProcessBeforeNumber);
        Expect.sentence("rule: BAD_PROCESS before LOCKED", Promise12OrderTest::ruleProcessBeforeLocked);
        Expect.sentence("rule: BAD_NUMBER before LOCKED", Promise12OrderTest::ruleNumberBeforeLocked);
        Expect.sentence("inject: BAD_PROCESS before BAD_NUMBER", Promise12OrderTest::injectProcessBeforeNumber);
        Expect.sentence("inject: BAD_PROCESS before LATE", Promise12OrderTest::injectProcessBeforeLate);
        Expect.sentence("inject: BAD_PROCESS before FULL", Promise12OrderTest::injectProcessBeforeFull);
        Expect.sentence("inject: BAD_NUMBER before LATE", Promise12OrderTest::injectNumberBeforeLate);
        Expect.sentence("inject: BAD_NUMBER before FULL", Promise12OrderTest::injectNumberBeforeFull);
        Expect.sentence("inject: LATE before FULL", Promise12OrderTest::injectLateBeforeFull);
        Expect.sentence("commit: BAD_NUMBER before LATE", Promise12OrderTest::commitNumberBeforeLate);
        Expect.sentence("handled: BAD_PROCESS before LATE", Promise12OrderTest::handledProcessBeforeLate);
        Expect.sentence("rule: every edge with every other", Promise12OrderTest::allEdgesOfRule);
        Expect.sentence("inject: every edge with every other", Promise12OrderTest::allEdgesOfInject);
        Expect.sentence("commit, state, handled, work: every edge with every other", Promise12OrderTest::allEdgesOfTheRest);
        Expect.end("Promise12OrderTest");
    }

    private static OptimisticSim made(Consumer<OptimisticSim> past) {
        OptimisticSim sim = new OptimisticSim();
        past.accept(sim);
        return sim;
    }

    private static void ruleProcessBeforeNumber() {
        OptimisticSim sim = made(Past::none);
        Expect.same("process, delay", sim.rule(4, 0, 0, 0), OptimisticSim.BAD_PROCESS);
        Expect.same("process, mask", sim.rule(-1, 0, 1, 16), OptimisticSim.BAD_PROCESS);
        Expect.same("target, delay", sim.rule(0, 4, 10, 0), OptimisticSim.BAD_PROCESS);
        Expect.same("target, mask", sim.rule(0, -1, 1, -1), OptimisticSim.BAD_PROCESS);
        Expect.same("all of them", sim.rule(-1, -1, 0, -1), OptimisticSim.BAD_PROCESS);
    }

    private static void ruleProcessBeforeLocked() {
        OptimisticSim sim = made(Past::events);
        Expect.same("process", sim.rule(4, 0, 1, 0), OptimisticSim.BAD_PROCESS);
        Expect.same("process", sim.rule(-1, 0, 1, 0), OptimisticSim.BAD_PROCESS);
        Expect.same("target", sim.rule(0, 4, 1, 0), OptimisticSim.BAD_PROCESS);
        Expect.same("target", sim.rule(0, -1, 1, 0), OptimisticSim.BAD_PROCESS);
        Expect.same("target, delay", sim.rule(0, 4, 10, 0), OptimisticSim.BAD_PROCESS);
        Expect.same("process, mask", sim.rule(4, 0, 1, 16), OptimisticSim.BAD_PROCESS);
    }

    private static void ruleNumberBeforeLocked() {
        OptimisticSim sim = made(Past::events);
        Expect.same("delay 0", sim.rule(0, 0, 0, 0), OptimisticSim.BAD_NUMBER);
        Expect.same("delay 10", sim.rule(0, 0, 10, 0), OptimisticSim.BAD_NUMBER);
        Expect.same("mask -1", sim.rule(0, 0, 1, -1), OptimisticSim.BAD_NUMBER);
        Expect.same("mask 16", sim.rule(0, 0, 1, 16), OptimisticSim.BAD_NUMBER);
        Expect.same("locked alone", sim.rule(0, 0, 1, 0), OptimisticSim.LOCKED);
    }

    private static void injectProcessBeforeNumber() {
        OptimisticSim sim = made(Past::none);
        Expect.same("process 4, time 100", sim.inject(4, 100, 0), OptimisticSim.BAD_PROCESS);
        Expect.same("process -1, time -1", sim.inject(-1, -1, 0), OptimisticSim.BAD_PROCESS);
    }

    private static void injectProcessBeforeLate() {
        OptimisticSim sim = made(Past::committed);
        Expect.same("process 4, late", sim.inject(4, 35, 0), OptimisticSim.BAD_PROCESS);
        Expect.same("process -1, late", sim.inject(-1, 0, 0), OptimisticSim.BAD_PROCESS);
    }

    private static void injectProcessBeforeFull() {
        OptimisticSim sim = made(Past::fullAndCommitted);
        Expect.same("process 4, full", sim.inject(4, 60, 0), OptimisticSim.BAD_PROCESS);
        Expect.same("process -1, late, full", sim.inject(-1, 20, 0), OptimisticSim.BAD_PROCESS);
        Expect.same("process 4, number, full", sim.inject(4, 100, 0), OptimisticSim.BAD_PROCESS);
    }

    private static void injectNumberBeforeLate() {
        OptimisticSim sim = made(Past::committed);
        Expect.same("time -1, horizon 35", sim.inject(0, -1, 0), OptimisticSim.BAD_NUMBER);
        // At the start -1 is not above the horizon either.
        Expect.same("time -1, horizon -1", made(Past::none).inject(0, -1, 0), OptimisticSim.BAD_NUMBER);
        sim.commit(200);
        Expect.same("time 100, horizon 200", sim.inject(0, 100, 0), OptimisticSim.BAD_NUMBER);
        Expect.same("time 200, horizon 200", sim.inject(0, 200, 0), OptimisticSim.BAD_NUMBER);
        Expect.same("time 99, horizon 200", sim.inject(0, 99, 0), OptimisticSim.LATE);
    }

    private static void injectNumberBeforeFull() {
        OptimisticSim sim = made(Past::fullAndCommitted);
        Expect.same("time 100, full", sim.inject(0, 100, 0), OptimisticSim.BAD_NUMBER);
        Expect.same("time -1, late, full", sim.inject(0, -1, 0), OptimisticSim.BAD_NUMBER);
    }

    private static void injectLateBeforeFull() {
        OptimisticSim sim = made(Past::fullAndCommitted);
        Expect.same("time 0, full", sim.inject(0, 0, 0), OptimisticSim.LATE);
        Expect.same("time 35, full", sim.inject(0, 35, 0), OptimisticSim.LATE);
        Expect.same("full alone", sim.inject(0, 36, 0), OptimisticSim.FULL);
    }

    private static void commitNumberBeforeLate() {
        OptimisticSim sim = made(Past::committed);
        Expect.same("commit(-1), horizon 35", sim.commit(-1), OptimisticSim.BAD_NUMBER);
        Expect.same("commit(the least), horizon 35", sim.commit(LEAST), OptimisticSim.BAD_NUMBER);
        Expect.same("late alone", sim.commit(0), OptimisticSim.LATE);
    }

    private static void handledProcessBeforeLate() {
        OptimisticSim sim = made(Past::committed);
        Expect.same("process 4, below", sim.handled(4, 34), OptimisticSim.BAD_PROCESS);
        Expect.same("process -1, above", sim.handled(-1, 201), OptimisticSim.BAD_PROCESS);
        Expect.same("below alone", sim.handled(0, 34), OptimisticSim.LATE);
        Expect.same("above alone", sim.handled(0, 201), OptimisticSim.LATE);
    }

    /** An object and its model, with some events injected and a horizon. */
    private static final class Pair {
        final OptimisticSim sim = new OptimisticSim();
        final Model model = new Model();

        Pair(int injected, int horizon) {
            for (int i = 0; i < injected; i++) {
                sim.inject(i % 4, i, i * 11);
                model.inject(i % 4, i, i * 11);
            }
            if (horizon >= 0) {
                sim.commit(horizon);
                model.commit(horizon);
            }
        }
    }

    private static void allEdgesOfRule() {
        for (int injected = 0; injected <= 1; injected++) {
            for (int process : PROCESSES) {
                for (int target : PROCESSES) {
                    for (int delay : DELAYS) {
                        for (int mask : MASKS) {
                            Pair pair = new Pair(injected, -1);
                            String call = "rule(" + process + ", " + target + ", " + delay + ", " + mask + ")";
                            int due = pair.model.rule(process, target, delay, mask);
                            Expect.same(call, pair.sim.rule(process, target, delay, mask), due);
                        }
                    }
                }
            }
        }
    }

    private static int[] timesAround(int horizon) {
        return new int[] {LEAST, -2, -1, 0, 1, horizon - 1, horizon, horizon + 1, 98, 99, 100, 199, 200, 201, MOST};
    }

    private static void allEdgesOfInject() {
        for (int injected : new int[] {0, 1, 23, 24}) {
            for (int horizon : HORIZONS) {
                for (int process : PROCESSES) {
                    for (int time : timesAround(horizon)) {
                        Pair pair = new Pair(injected, horizon);
                        String call = "inject(" + process + ", " + time + ", 0) of " + injected + ", horizon " + horizon;
                        Expect.same(call, pair.sim.inject(process, time, 0), pair.model.inject(process, time, 0));
                        Expect.same("events() behind " + call, pair.sim.events(), pair.model.events());
                    }
                }
            }
        }
    }

    private static void allEdgesOfTheRest() {
        for (int injected : new int[] {0, 1, 24}) {
            for (int horizon : HORIZONS) {
                for (int time : timesAround(horizon)) {
                    Pair pair = new Pair(injected, horizon);
                    String text = time + ") of " + injected + ", horizon " + horizon;
                    for (int process : PROCESSES) {
                        String call = "(" + process + ", " + text;
                        Expect.same("state" + call, pair.sim.state(process, time), pair.model.state(process, time));
                        Expect.same("handled" + call, pair.sim.handled(process, time), pair.model.handled(process, time));
                        Expect.same("work" + call, pair.sim.work(process, time), pair.model.work(process, time));
                    }
                    Expect.same("commit(" + text, pair.sim.commit(time), pair.model.commit(time));
                    Expect.same("horizon() behind commit(" + text, pair.sim.horizon(), pair.model.horizon());
                }
            }
        }
    }
}
