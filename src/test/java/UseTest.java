/** 'What it is': four processes, and the 512 calls for which an object is used. */
public final class UseTest {
    private static final int CALLS = 512;

    public static void main(String[] args) {
        Expect.sentence("A simulation of four PROCESSES (0 to 3)", UseTest::fourProcesses);
        Expect.sentence("An object is used for at most 512 calls: the last one, an inject", UseTest::lastCallInjects);
        Expect.sentence("An object is used for at most 512 calls: refused ones", UseTest::refusedCallsUseNothingUp);
        Expect.sentence("An object is used for at most 512 calls: filled and cleared", UseTest::filledAndCleared);
        Expect.sentence("No call may ever throw or fail to end (LANGUAGE.md, rule 7)", UseTest::laterCallsEndToo);
        Expect.end("UseTest");
    }

    private static void fourProcesses() {
        OptimisticSim sim = new OptimisticSim();
        for (int process = 0; process < 4; process++) {
            Expect.same("inject at " + process, sim.inject(process, 10, process), process + 1);
        }
        for (int process = 0; process < 4; process++) {
            Expect.same("state(" + process + ", 10)", sim.state(process, 10), process + 1);
            Expect.same("handled(" + process + ", 10)", sim.handled(process, 10), 1);
        }
        Expect.same("inject at -1", sim.inject(-1, 10, 0), OptimisticSim.BAD_PROCESS);
        Expect.same("inject at 4", sim.inject(4, 10, 0), OptimisticSim.BAD_PROCESS);
    }

    private static void lastCallInjects() {
        OptimisticSim sim = new OptimisticSim();
        int calls = 0;
        for (int i = 1; i <= 23; i++) {
            Expect.same("inject number " + i, sim.inject(2, 99 - i, 0), i);
            calls++;
        }
        for (; calls < CALLS - 1; calls++) {
            Expect.same("work", sim.work(2, 1), 0);
        }
        Expect.same("inject as the 512th call", sim.inject(2, 0, 0), 24);
    }

    private static void refusedCallsUseNothingUp() {
        OptimisticSim sim = new OptimisticSim();
        int calls = 0;
        for (; calls < CALLS - 3; calls++) {
            Expect.same("inject beyond 99", sim.inject(1, 100 + calls, 0), OptimisticSim.BAD_NUMBER);
        }
        Expect.same("rule as the 510th call", sim.rule(1, 1, 9, 0), 0);
        Expect.same("inject as the 511th call", sim.inject(1, 99, Expect.what(0, 3)), 1);
        Expect.same("lastTime as the 512th call", sim.lastTime(), 126);
    }

    // 4 + 20 * 25 + 6 + 2 = 512 calls.
    private static void filledAndCleared() {
        OptimisticSim sim = new OptimisticSim();
        for (int process = 0; process < 4; process++) {
            sim.rule(process, 3 - process, 9, 0);
        }
        for (int round = 0; round < 20; round++) {
            for (int i = 1; i <= 24; i++) {
                Expect.same("inject number " + i, sim.inject(i % 4, 99 - i, Expect.what(i % 16, 3)), i);
            }
            sim.clear();
        }
        for (int i = 1; i <= 6; i++) {
            Expect.same("inject number " + i, sim.inject(0, 50, Expect.what(15, 3)), i);
        }
        Expect.same("events as the 511th call", sim.events(), 24);
        Expect.same("commit as the 512th call", sim.commit(77), 24);
    }

    private static void laterCallsEndToo() {
        OptimisticSim sim = new OptimisticSim();
        for (int horizon : new int[] {-1, 0, 50, 99, 200}) {
            sim.clear();
            sim.commit(horizon);
            callWithAllEdges(sim);
            sim.clear();
            Past.full(sim);
            sim.commit(horizon);
            callWithAllEdges(sim);
        }
        // What such late calls answer is free: that they have come to an end is all there is to see.
        Expect.same("reached the end", true, true);
    }

    private static void callWithAllEdges(OptimisticSim sim) {
        int[] edges = {Integer.MIN_VALUE, -1, 0, 3, 4, 50, 99, 100, 200, 201, Integer.MAX_VALUE};
        for (int a : edges) {
            for (int b : edges) {
                for (int c : edges) {
                    sim.rule(a, b, c, a);
                    sim.inject(a, b, c);
                }
                sim.work(a, b);
                sim.state(a, b);
                sim.handled(a, b);
            }
            sim.lastTime();
            sim.events();
            sim.horizon();
        }
        for (int time : edges) {
            sim.commit(time);
        }
    }
}
