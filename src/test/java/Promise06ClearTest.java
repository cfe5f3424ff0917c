/** Promise 6: clear makes all as at the start, but that rules stay. */
public final class Promise06ClearTest {
    public static void main(String[] args) {
        clearOfNewObject();
        eventsAndHorizonGo();
        rulesStay();
        nothingOldComesBack();
        Expect.end("Promise06ClearTest");
    }

    private static void clearOfNewObject() {
        OptimisticSim sim = new OptimisticSim();
        sim.clear();
        sim.clear();
        Expect.same("the view", Expect.view(sim), Expect.view(new OptimisticSim()));
        sim.inject(1, 10, Expect.what(15, 1));
        Expect.same("state(0, 11) by the first rule", sim.state(0, 11), 5);
    }

    private static void eventsAndHorizonGo() {
        OptimisticSim sim = new OptimisticSim();
        for (int i = 0; i < 24; i++) {
            sim.inject(i % 4, 50 + i, Expect.what(i % 16, 3));
        }
        sim.work(2, 7);
        sim.commit(60);
        sim.clear();
        Expect.same("horizon()", sim.horizon(), -1);
        Expect.same("events()", sim.events(), 0);
        Expect.same("lastTime()", sim.lastTime(), -1);
        Expect.same("the view", Expect.view(sim), Expect.view(new OptimisticSim()));
        Expect.same("inject at 0", sim.inject(3, 0, Expect.what(4, 0)), 1);
        Expect.same("state(3, 0)", sim.state(3, 0), 5);
    }

    private static void rulesStay() {
        OptimisticSim sim = new OptimisticSim();
        for (int process = 0; process < 4; process++) {
            sim.rule(process, (process + 2) % 4, process + 3, 0);
        }
        sim.inject(0, 10, 0);
        sim.clear();
        sim.clear();
        for (int process = 0; process < 4; process++) {
            sim.inject(process, 10, Expect.what(0, 1));
            Expect.same("lastTime() from " + process, sim.lastTime(), 13 + process);
            Expect.same("handled by the target", sim.handled((process + 2) % 4, 200), 1);
            sim.clear();
        }
        Expect.same("rule behind clear", sim.rule(0, 3, 9, 0), 0);
        sim.clear();
        sim.inject(0, 10, Expect.what(0, 1));
        Expect.same("lastTime() by the newer rule", sim.lastTime(), 19);
    }

    private static void nothingOldComesBack() {
        OptimisticSim sim = new OptimisticSim();
        sim.rule(0, 0, 1, 0);
        OptimisticSim fresh = new OptimisticSim();
        fresh.rule(0, 0, 1, 0);
        for (int i = 0; i < 20; i++) {
            sim.inject(0, i, Expect.what(i % 16, 3));
        }
        sim.clear();
        sim.inject(0, 8, Expect.what(5, 2));
        fresh.inject(0, 8, Expect.what(5, 2));
        Expect.same("the view", Expect.view(sim), Expect.view(fresh));
    }
}
