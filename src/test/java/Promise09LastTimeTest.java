/** Promise 9: lastTime is the time of the simulation's last event, or -1. */
public final class Promise09LastTimeTest {
    public static void main(String[] args) {
        Expect.sentence("The time of the last event of the simulation", Promise09LastTimeTest::ofInjectedAndSent);
        Expect.sentence("The time of the last event: of any process", Promise09LastTimeTest::ofAnyProcess);
        Expect.sentence("The time of the last event: the least and the greatest", Promise09LastTimeTest::leastAndGreatest);
        Expect.sentence("The time of the last event: one that is sent no more", Promise09LastTimeTest::sentNoMore);
        Expect.sentence("-1 if there are none", Promise09LastTimeTest::none);
        Expect.sentence("(Events at or before the horizon count too.)", Promise09LastTimeTest::beforeTheHorizon);
        Expect.end("Promise09LastTimeTest");
    }

    private static void ofInjectedAndSent() {
        OptimisticSim sim = new OptimisticSim();
        sim.rule(2, 3, 9, 0);
        sim.inject(0, 40, 0);
        Expect.same("lastTime() at 40", sim.lastTime(), 40);
        sim.inject(0, 20, 0);
        Expect.same("lastTime() behind an earlier one", sim.lastTime(), 40);
        sim.inject(2, 31, Expect.what(0, 1));
        Expect.same("lastTime() with one sent to 40", sim.lastTime(), 40);
        sim.inject(2, 32, Expect.what(0, 1));
        Expect.same("lastTime() with one sent to 41", sim.lastTime(), 41);
    }

    private static void ofAnyProcess() {
        for (int process = 0; process < 4; process++) {
            OptimisticSim sim = new OptimisticSim();
            for (int other = 0; other < 4; other++) {
                sim.inject(other, other == process ? 60 : 50, 0);
            }
            Expect.same("lastTime() at " + process, sim.lastTime(), 60);
        }
    }

    private static void leastAndGreatest() {
        OptimisticSim sim = new OptimisticSim();
        sim.inject(0, 0, 0);
        Expect.same("lastTime() at 0", sim.lastTime(), 0);
        sim = new OptimisticSim();
        sim.rule(0, 0, 9, 0);
        sim.inject(0, 99, Expect.what(0, 3));
        Expect.same("lastTime() at 99 and 3 times 9", sim.lastTime(), 126);
    }

    private static void sentNoMore() {
        OptimisticSim sim = new OptimisticSim();
        sim.rule(0, 1, 9, 1);
        sim.inject(0, 50, Expect.what(1, 1));
        Expect.same("lastTime() with a sent one", sim.lastTime(), 59);
        sim.inject(0, 10, Expect.what(0, 0));
        Expect.same("lastTime() when it isn't sent", sim.lastTime(), 50);
    }

    private static void none() {
        OptimisticSim sim = new OptimisticSim();
        Expect.same("lastTime() at the start", sim.lastTime(), -1);
        sim.inject(4, 10, 0);
        sim.inject(0, 100, 0);
        Expect.same("lastTime() behind refused injects", sim.lastTime(), -1);
        sim.commit(10);
        Expect.same("lastTime(), horizon 10", sim.lastTime(), -1);
        sim.inject(1, 30, 0);
        sim.clear();
        Expect.same("lastTime() behind clear", sim.lastTime(), -1);
    }

    private static void beforeTheHorizon() {
        OptimisticSim sim = new OptimisticSim();
        sim.inject(1, 30, 0);
        for (int horizon : new int[] {29, 30, 31, 99, 200}) {
            sim.commit(horizon);
            Expect.same("lastTime(), horizon " + horizon, sim.lastTime(), 30);
        }
    }
}
