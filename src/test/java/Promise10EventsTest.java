/** Promise 10: events counts all events, those injected and those sent. */
public final class Promise10EventsTest {
    public static void main(String[] args) {
        lifeBoundsTheChain();
        fullestSimulation();
        shrinksWhenSendingIsUndone();
        horizonDoesNotMatter();
        Expect.end("Promise10EventsTest");
    }

    private static void lifeBoundsTheChain() {
        for (int life = 0; life <= 3; life++) {
            OptimisticSim sim = new OptimisticSim();
            sim.rule(0, 0, 1, 0);
            sim.inject(0, 10, Expect.what(0, life));
            Expect.same("events() of life " + life, sim.events(), 1 + life);
        }
    }

    private static void fullestSimulation() {
        for (int times = 0; times < 2; times++) {
            OptimisticSim sim = new OptimisticSim();
            for (int process = 0; process < 4; process++) {
                sim.rule(process, (process + 1) % 4, 9, 0);
            }
            for (int i = 1; i <= 24; i++) {
                sim.inject(i % 4, times == 0 ? 99 : 99 - i, Expect.what(i % 16, 3));
                Expect.same("events() of " + i, sim.events(), 4 * i);
            }
            int sum = 0;
            for (int process = 0; process < 4; process++) {
                sum += sim.handled(process, 200);
            }
            Expect.same("handled by all", sum, 96);
            Expect.same("commit(200)", sim.commit(200), 96);
        }
    }

    private static void shrinksWhenSendingIsUndone() {
        OptimisticSim sim = new OptimisticSim();
        sim.rule(0, 1, 1, 1);
        for (int i = 0; i < 3; i++) {
            sim.inject(0, 50, Expect.what(1, 1));
        }
        // States 2, 12, 62: each is even and sends.
        Expect.same("events()", sim.events(), 6);
        sim.inject(0, 10, Expect.what(0, 0));
        // States 1, 7, 37, 187: each is odd.
        Expect.same("events() then", sim.events(), 4);
    }

    private static void horizonDoesNotMatter() {
        OptimisticSim sim = new OptimisticSim();
        sim.inject(0, 10, 0);
        sim.inject(0, 20, 0);
        sim.commit(15);
        Expect.same("events(), horizon 15", sim.events(), 2);
        sim.commit(200);
        Expect.same("events(), horizon 200", sim.events(), 2);
        sim.clear();
        Expect.same("events() behind clear", sim.events(), 0);
    }
}
