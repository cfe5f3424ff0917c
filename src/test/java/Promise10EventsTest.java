/** Promise 10: events counts all events, those injected and those sent. */
public final class Promise10EventsTest {
    public static void main(String[] args) {
        Expect.sentence("How many events the simulation has in all: none", Promise10EventsTest::none);
        Expect.sentence("those injected", Promise10EventsTest::injected);
        Expect.sentence("and those sent", Promise10EventsTest::sent);
        Expect.sentence("in all: 24 injected and 72 sent", Promise10EventsTest::fullest);
        Expect.sentence("in all: not those that are sent no more", Promise10EventsTest::sentNoMore);
        Expect.sentence("in all: those up to the horizon too", Promise10EventsTest::beforeTheHorizon);
        Expect.end("Promise10EventsTest");
    }

    private static void none() {
        OptimisticSim sim = new OptimisticSim();
        Expect.same("events() at the start", sim.events(), 0);
        sim.inject(4, 10, 0);
        sim.inject(0, 100, 0);
        Expect.same("events() behind refused injects", sim.events(), 0);
        sim.inject(0, 10, 0);
        sim.clear();
        Expect.same("events() behind clear", sim.events(), 0);
    }

    private static void injected() {
        OptimisticSim sim = new OptimisticSim();
        for (int i = 1; i <= 24; i++) {
            sim.inject(i % 4, 99 - i, i % 16);
            Expect.same("events() of " + i, sim.events(), i);
        }
        sim.inject(0, 50, 0);
        Expect.same("events() behind one too many", sim.events(), 24);
    }

    private static void sent() {
        for (int life = 0; life <= 3; life++) {
            OptimisticSim sim = new OptimisticSim();
            sim.rule(0, 0, 1, 0);
            sim.inject(0, 10, Expect.what(0, life));
            Expect.same("events() of life " + life, sim.events(), 1 + life);
        }
    }

    private static void fullest() {
        for (int step = 0; step <= 4; step++) {
            OptimisticSim sim = new OptimisticSim();
            for (int process = 0; process < 4; process++) {
                sim.rule(process, (process + 1) % 4, 9, 0);
            }
            for (int i = 1; i <= 24; i++) {
                sim.inject(i % 4, 99 - i * step, Expect.what(i % 16, 3));
                Expect.same("events() of " + i, sim.events(), 4 * i);
            }
            int sum = 0;
            for (int process = 0; process < 4; process++) {
                sum += sim.handled(process, 200);
            }
            Expect.same("handled by all", sum, 96);
            Expect.same("commit(200)", sim.commit(200), 96);
        }
    }

    private static void sentNoMore() {
        OptimisticSim sim = new OptimisticSim();
        sim.rule(0, 1, 1, 1);
        for (int i = 0; i < 3; i++) {
            sim.inject(0, 50, Expect.what(1, 1));
        }
        // States 2, 12, 62: each is even and sends.
        Expect.same("events()", sim.events(), 6);
        sim.inject(0, 10, Expect.what(0, 0));
        // States 1, 7, 37, 187: each is odd.
        Expect.same("events() then", sim.events(), 4);
    }

    private static void beforeTheHorizon() {
        OptimisticSim sim = new OptimisticSim();
        sim.inject(0, 10, 0);
        sim.inject(0, 20, 0);
        for (int horizon : new int[] {9, 10, 15, 20, 21, 200}) {
            sim.commit(horizon);
            Expect.same("events(), horizon " + horizon, sim.events(), 2);
        }
    }
}
