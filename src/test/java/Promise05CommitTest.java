import java.util.function.Consumer;

/** Promise 5: commit moves the horizon and answers how many events lie up to it. */
public final class Promise05CommitTest {
    private static final int[] NOT_TIMES = {-1, -2, 201, 202, Integer.MIN_VALUE, Integer.MAX_VALUE};

    public static void main(String[] args) {
        Expect.sentence("The horizon becomes 'time'", Promise05CommitTest::horizonBecomesTime);
        Expect.sentence("for good", Promise05CommitTest::forGood);
        Expect.sentence("time not in 0 to 200: BAD_NUMBER", Promise05CommitTest::badTime);
        Expect.sentence("below the horizon: LATE", Promise05CommitTest::late);
        Expect.sentence("nothing changes then", Promise05CommitTest::nothingChanges);
        Expect.sentence("Else answers how many events with times up to it", Promise05CommitTest::countsUpToTheTime);
        Expect.sentence("how many events ...: none", Promise05CommitTest::countsNone);
        Expect.sentence("how many events ...: those behind the old horizon too", Promise05CommitTest::countsAllAgain);
        Expect.sentence("the simulation has", Promise05CommitTest::countsSentAndUndone);
        Expect.sentence("over all processes", Promise05CommitTest::countsAllProcesses);
        Expect.end("Promise05CommitTest");
    }

    /** Events at 10, 14, 18, 22 (a chain over processes 0, 1, 0, 1), at 14 and at 99. */
    private static OptimisticSim sample() {
        OptimisticSim sim = new OptimisticSim();
        sim.rule(0, 1, 4, 0);
        sim.rule(1, 0, 4, 0);
        sim.inject(0, 10, Expect.what(1, 3));
        sim.inject(2, 14, Expect.what(1, 0));
        sim.inject(3, 99, Expect.what(1, 0));
        return sim;
    }

    private static void horizonBecomesTime() {
        OptimisticSim sim = sample();
        for (int time = 0; time <= 200; time++) {
            sim.commit(time);
            Expect.same("horizon() behind commit(" + time + ")", sim.horizon(), time);
        }
        sim = sample();
        sim.commit(200);
        Expect.same("horizon() in one step", sim.horizon(), 200);
    }

    private static void forGood() {
        OptimisticSim sim = sample();
        sim.commit(14);
        sim.work(0, 9);
        sim.inject(0, 15, 0);
        sim.inject(0, 14, 0);
        sim.rule(0, 0, 1, 0);
        sim.state(0, 3);
        sim.handled(0, 3);
        sim.commit(13);
        sim.commit(201);
        Expect.same("horizon() later", sim.horizon(), 14);
        Expect.same("inject at it later", sim.inject(0, 14, 0), OptimisticSim.LATE);
        Expect.same("handled below it later", sim.handled(0, 13), OptimisticSim.LATE);
    }

    private static void badTime() {
        for (int time : NOT_TIMES) {
            OptimisticSim sim = sample();
            Expect.same("commit(" + time + ")", sim.commit(time), OptimisticSim.BAD_NUMBER);
            sim.commit(20);
            Expect.same("commit(" + time + "), horizon 20", sim.commit(time), OptimisticSim.BAD_NUMBER);
            sim.commit(200);
            Expect.same("commit(" + time + "), horizon 200", sim.commit(time), OptimisticSim.BAD_NUMBER);
        }
        Expect.same("commit(0)", sample().commit(0), 0);
        Expect.same("commit(200)", sample().commit(200), 6);
    }

    private static void late() {
        for (int horizon : new int[] {1, 14, 99, 100, 200}) {
            OptimisticSim sim = sample();
            int count = sim.commit(horizon);
            String text = ", horizon " + horizon;
            Expect.same("commit(0)" + text, sim.commit(0), OptimisticSim.LATE);
            Expect.same("commit below it" + text, sim.commit(horizon - 1), OptimisticSim.LATE);
            Expect.same("commit at it" + text, sim.commit(horizon), count);
        }
        OptimisticSim sim = sample();
        Expect.same("commit(0), horizon -1", sim.commit(0), 0);
        Expect.same("commit(0), horizon 0", sim.commit(0), 0);
        Expect.same("commit(1), horizon 0", sim.commit(1), 0);
    }

    private static void nothingChanges() {
        nothingChangesBehind("none", Past::none);
        nothingChangesBehind("events", Past::events);
        nothingChangesBehind("committed", Past::committed);
        nothingChangesBehind("full", Past::full);
        nothingChangesBehind("cleared", Past::cleared);
        for (int time : new int[] {0, 33, 34}) {
            Expect.refused("commit(" + time + "), horizon 35", Past::committed, sim -> sim.commit(time), OptimisticSim.LATE);
        }
        for (int time : new int[] {0, 35, 199}) {
            Expect.refused("commit(" + time + "), horizon 200", Past::committedToTheEnd, sim -> sim.commit(time), OptimisticSim.LATE);
        }
    }

    private static void nothingChangesBehind(String name, Consumer<OptimisticSim> past) {
        for (int time : NOT_TIMES) {
            String text = "commit(" + time + ") behind " + name;
            Expect.refused(text, past, sim -> sim.commit(time), OptimisticSim.BAD_NUMBER);
        }
    }

    private static void countsUpToTheTime() {
        int[] times = {0, 9, 10, 13, 14, 17, 18, 21, 22, 98, 99, 100, 200};
        int[] counts = {0, 0, 1, 1, 3, 3, 4, 4, 5, 5, 6, 6, 6};
        for (int i = 0; i < times.length; i++) {
            Expect.same("commit(" + times[i] + ")", sample().commit(times[i]), counts[i]);
        }
        OptimisticSim sim = new OptimisticSim();
        sim.inject(0, 0, 0);
        Expect.same("commit(0) with an event at 0", sim.commit(0), 1);
    }

    private static void countsNone() {
        OptimisticSim sim = new OptimisticSim();
        Expect.same("commit(0)", sim.commit(0), 0);
        Expect.same("commit(200)", sim.commit(200), 0);
        Expect.same("commit(200) again", sim.commit(200), 0);
    }

    private static void countsAllAgain() {
        OptimisticSim sim = sample();
        Expect.same("commit(14)", sim.commit(14), 3);
        Expect.same("commit(14) again", sim.commit(14), 3);
        sim.inject(2, 15, Expect.what(0, 0));
        Expect.same("commit(14) behind an inject", sim.commit(14), 3);
        Expect.same("commit(15)", sim.commit(15), 4);
        Expect.same("commit(200)", sim.commit(200), 7);
        Expect.same("commit(200) again", sim.commit(200), 7);
    }

    private static void countsSentAndUndone() {
        OptimisticSim sim = new OptimisticSim();
        sim.rule(0, 1, 9, 1);
        sim.inject(0, 50, Expect.what(1, 1));
        Expect.same("commit(20)", sim.commit(20), 0);
        // The state 2 was even and sent; behind the event at 21 it is 7.
        sim.inject(0, 21, Expect.what(0, 0));
        Expect.same("commit(58)", sim.commit(58), 2);
        Expect.same("commit(59)", sim.commit(59), 2);

        sim = new OptimisticSim();
        for (int process = 0; process < 4; process++) {
            sim.rule(process, process, 9, 0);
        }
        for (int i = 0; i < 24; i++) {
            sim.inject(i % 4, 99, Expect.what(i % 16, 3));
        }
        Expect.same("commit(98)", sim.commit(98), 0);
        Expect.same("commit(99)", sim.commit(99), 24);
        Expect.same("commit(125)", sim.commit(125), 72);
        Expect.same("commit(126)", sim.commit(126), 96);
    }

    private static void countsAllProcesses() {
        for (int process = 0; process < 4; process++) {
            OptimisticSim sim = new OptimisticSim();
            sim.inject(process, 10, 0);
            Expect.same("commit(10) of one at " + process, sim.commit(10), 1);
        }
        OptimisticSim sim = new OptimisticSim();
        for (int process = 0; process < 4; process++) {
            sim.inject(process, 10, 0);
        }
        Expect.same("commit(10) of one at each", sim.commit(10), 4);
    }
}
