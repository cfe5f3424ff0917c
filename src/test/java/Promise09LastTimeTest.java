/** Promise 9: lastTime is the time of the simulation's last event, or -1. */
public final class Promise09LastTimeTest {
    public static void main(String[] args) {
        ofInjectedAndSent();
        latestPossible();
        shrinksWhenSendingIsUndone();
        horizonDoesNotMatter();
        Expect.end("Promise09LastTimeTest");
    }

    private static void ofInjectedAndSent() {
        OptimisticSim sim = new OptimisticSim();
        Expect.same("lastTime() of none", sim.lastTime(), -1);
        sim.rule(2, 3, 9, 0);
        sim.inject(0, 0, 0);
        Expect.same("lastTime() at 0", sim.lastTime(), 0);
        sim.inject(0, 40, 0);
        Expect.same("lastTime() at 40", sim.lastTime(), 40);
        sim.inject(0, 20, 0);
        Expect.same("lastTime() behind an earlier one", sim.lastTime(), 40);
        sim.inject(2, 35, Expect.what(0, 1));
        Expect.same("lastTime() of a sent one", sim.lastTime(), 44);
    }

    private static void latestPossible() {
        OptimisticSim sim = new OptimisticSim();
        sim.rule(0, 0, 9, 0);
        sim.inject(0, 99, Expect.what(0, 3));
        Expect.same("lastTime()", sim.lastTime(), 126);
        Expect.same("handled(0, 125)", sim.handled(0, 125), 3);
        Expect.same("handled(0, 126)", sim.handled(0, 126), 4);
    }

    private static void shrinksWhenSendingIsUndone() {
        OptimisticSim sim = new OptimisticSim();
        sim.rule(0, 1, 9, 1);
        sim.inject(0, 50, Expect.what(1, 1));
        Expect.same("lastTime() with a sent one", sim.lastTime(), 59);
        sim.inject(0, 10, Expect.what(0, 0));
        Expect.same("lastTime() when it isn't sent", sim.lastTime(), 50);
    }

    private static void horizonDoesNotMatter() {
        OptimisticSim sim = new OptimisticSim();
        sim.commit(10);
        Expect.same("lastTime() of none, horizon 10", sim.lastTime(), -1);
        sim.inject(1, 30, 0);
        sim.commit(30);
        Expect.same("lastTime(), horizon 30", sim.lastTime(), 30);
        sim.commit(200);
        Expect.same("lastTime(), horizon 200", sim.lastTime(), 30);
        sim.clear();
        Expect.same("lastTime() behind clear", sim.lastTime(), -1);
    }
}
