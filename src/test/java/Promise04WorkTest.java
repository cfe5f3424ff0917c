import java.util.function.Consumer;

/** Promise 4: work answers 0 or BAD_PROCESS and changes nothing that another call answers. */
public final class Promise04WorkTest {
    private static final int[] AMOUNTS = {0, 1, 2, 24, 96, 97, -1, Integer.MIN_VALUE, Integer.MAX_VALUE};

    public static void main(String[] args) {
        Expect.sentence("(n any int)", Promise04WorkTest::anyAmount);
        Expect.sentence("Changes nothing that any other call answers.", Promise04WorkTest::changesNothing);
        Expect.sentence("Changes nothing ...: ahead of an inject", Promise04WorkTest::workAheadIsUndoneUnseen);
        Expect.sentence("process not in 0 to 3: BAD_PROCESS", Promise04WorkTest::badProcess);
        Expect.sentence("process not in 0 to 3: nothing changes", Promise04WorkTest::nothingChangesByRefusals);
        Expect.sentence("Else answers 0.", Promise04WorkTest::answersZero);
        Expect.end("Promise04WorkTest");
    }

    private static void anyAmount() {
        for (int n : AMOUNTS) {
            OptimisticSim sim = new OptimisticSim();
            for (int process = 0; process < 4; process++) {
                Expect.same("work(" + process + ", " + n + ") on none", sim.work(process, n), 0);
            }
            Past.full(sim);
            for (int process = 0; process < 4; process++) {
                Expect.same("work(" + process + ", " + n + ") on 24", sim.work(process, n), 0);
            }
        }
    }

    private static void changesNothing() {
        changesNothingBehind("none", Past::none);
        changesNothingBehind("rules", Past::rules);
        changesNothingBehind("events", Past::events);
        changesNothingBehind("committed", Past::committed);
        changesNothingBehind("committed to the end", Past::committedToTheEnd);
        changesNothingBehind("full", Past::full);
        changesNothingBehind("cleared", Past::cleared);
    }

    private static void changesNothingBehind(String name, Consumer<OptimisticSim> past) {
        for (int n : AMOUNTS) {
            for (int process = 0; process < 4; process++) {
                int p = process;
                Expect.unchanged("work(" + p + ", " + n + ") behind " + name, past, sim -> sim.work(p, n));
            }
        }
    }

    private static void workAheadIsUndoneUnseen() {
        OptimisticSim worked = new OptimisticSim();
        OptimisticSim idle = new OptimisticSim();
        for (int process = 0; process < 4; process++) {
            worked.rule(process, 3 - process, 2, process);
            idle.rule(process, 3 - process, 2, process);
        }
        for (int i = 0; i < 24; i++) {
            int time = (i * 37) % 50 + 1;
            int what = i * 29;
            worked.work(i % 3, i);
            worked.work(3, Integer.MAX_VALUE);
            Expect.same("inject beside work", worked.inject(i % 4, time, what), idle.inject(i % 4, time, what));
            for (int process = 0; process < 4; process++) {
                Expect.same("state beside work", worked.state(process, 200), idle.state(process, 200));
                Expect.same("handled beside work", worked.handled(process, 30), idle.handled(process, 30));
            }
        }
        Expect.same("commit(30) beside work", worked.commit(30), idle.commit(30));
    }

    private static void badProcess() {
        for (int n : AMOUNTS) {
            OptimisticSim sim = new OptimisticSim();
            for (int process : Expect.NOT_PROCESSES) {
                Expect.same("work(" + process + ", " + n + ")", sim.work(process, n), OptimisticSim.BAD_PROCESS);
            }
            Past.events(sim);
            for (int process : Expect.NOT_PROCESSES) {
                Expect.same("work(" + process + ", " + n + ")", sim.work(process, n), OptimisticSim.BAD_PROCESS);
            }
            for (int process : Expect.PROCESS_EDGES) {
                Expect.same("work(" + process + ", " + n + ")", sim.work(process, n), 0);
            }
        }
    }

    private static void nothingChangesByRefusals() {
        for (int process : Expect.NOT_PROCESSES) {
            String text = "work at process " + process;
            Expect.refused(text, Past::none, sim -> sim.work(process, 5), OptimisticSim.BAD_PROCESS);
            Expect.refused(text, Past::committed, sim -> sim.work(process, 5), OptimisticSim.BAD_PROCESS);
            Expect.refused(text, Past::full, sim -> sim.work(process, 5), OptimisticSim.BAD_PROCESS);
        }
    }

    // Also when there is nothing, or nothing more, to handle.
    private static void answersZero() {
        OptimisticSim sim = new OptimisticSim();
        Expect.same("work on nothing", sim.work(1, 1), 0);
        sim.inject(1, 10, Expect.what(3, 2));
        for (int i = 0; i < 5; i++) {
            Expect.same("work number " + i, sim.work(1, 1), 0);
        }
        sim.commit(200);
        Expect.same("work when all is committed", sim.work(1, 1), 0);
        sim.clear();
        Expect.same("work behind clear", sim.work(1, 1), 0);
    }
}
