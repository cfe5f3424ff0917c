import java.util.function.Consumer;

/** Promise 6: clear makes all as at the start, but that rules stay. */
public final class Promise06ClearTest {
    public static void main(String[] args) {
        Expect.sentence("As at the start: a new object", Promise06ClearTest::newObject);
        Expect.sentence("As at the start: no events", Promise06ClearTest::noEvents);
        Expect.sentence("As at the start: the horizon is -1", Promise06ClearTest::horizonIsMinusOne);
        Expect.sentence("As at the start: in all that calls answer", Promise06ClearTest::allAsAtTheStart);
        Expect.sentence("As at the start: room for 24 events, and rules not locked", Promise06ClearTest::roomAndNoLock);
        Expect.sentence("but that rules stay", Promise06ClearTest::rulesStay);
        Expect.sentence("but that rules stay: those of a new object too", Promise06ClearTest::firstRulesStay);
        Expect.sentence("but that rules stay: and can be set anew", Promise06ClearTest::rulesCanBeSet);
        Expect.end("Promise06ClearTest");
    }

    private static void newObject() {
        Expect.unchanged("clear of a new object", Past::none, OptimisticSim::clear);
        Expect.unchanged("clear of one with rules", Past::rules, OptimisticSim::clear);
        Expect.unchanged("clear of a cleared one", Past::cleared, OptimisticSim::clear);
    }

    private static OptimisticSim clearedOfAll() {
        OptimisticSim sim = new OptimisticSim();
        Past.full(sim);
        sim.work(2, 7);
        sim.commit(60);
        sim.clear();
        return sim;
    }

    private static void noEvents() {
        OptimisticSim sim = clearedOfAll();
        Expect.same("events()", sim.events(), 0);
        Expect.same("lastTime()", sim.lastTime(), -1);
        for (int process = 0; process < 4; process++) {
            Expect.same("state(" + process + ", 200)", sim.state(process, 200), 0);
            Expect.same("handled(" + process + ", 200)", sim.handled(process, 200), 0);
        }
        Expect.same("inject at 0", sim.inject(3, 0, Expect.what(4, 0)), 1);
        Expect.same("state(3, 0)", sim.state(3, 0), 5);
        Expect.same("commit(200)", sim.commit(200), 1);
    }

    private static void horizonIsMinusOne() {
        for (int horizon : new int[] {0, 1, 60, 200}) {
            OptimisticSim sim = new OptimisticSim();
            sim.commit(horizon);
            sim.clear();
            Expect.same("horizon() behind " + horizon, sim.horizon(), -1);
            Expect.same("handled(0, -1)", sim.handled(0, -1), 0);
            Expect.same("inject at 0", sim.inject(0, 0, 0), 1);
            Expect.same("commit(0)", sim.commit(0), 1);
        }
    }

    private static void allAsAtTheStart() {
        String due = Sight.of(Past::rules);
        Expect.same("all calls behind a clear of events", clearedSight(Past::events), due);
        Expect.same("all calls behind a clear of a horizon", clearedSight(Past::committed), due);
        Expect.same("all calls behind a clear at the end", clearedSight(Past::committedToTheEnd), due);
        Expect.same("all calls behind a clear of 24", clearedSight(Past::full), due);
        Expect.same("all calls behind a clear of 24 and a horizon", clearedSight(Past::fullAndCommitted), due);
        Consumer<OptimisticSim> worked = Past::full;
        Expect.same("all calls behind work and clear", clearedSight(worked.andThen(sim -> sim.work(1, 9))), due);
    }

    private static String clearedSight(Consumer<OptimisticSim> past) {
        return Sight.of(past.andThen(OptimisticSim::clear));
    }

    private static void roomAndNoLock() {
        OptimisticSim sim = clearedOfAll();
        Expect.same("rule", sim.rule(0, 0, 1, 0), 0);
        for (int i = 1; i <= 24; i++) {
            Expect.same("inject number " + i, sim.inject(0, i, 0), i);
        }
        Expect.same("inject number 25", sim.inject(0, 50, 0), OptimisticSim.FULL);
        Expect.same("events()", sim.events(), 24);
    }

    private static void rulesStay() {
        OptimisticSim sim = new OptimisticSim();
        for (int process = 0; process < 4; process++) {
            sim.rule(process, (process + 2) % 4, process + 3, 0);
        }
        sim.inject(0, 10, 0);
        sim.clear();
        sim.clear();
        for (int process = 0; process < 4; process++) {
            sim.inject(process, 10, Expect.what(0, 1));
            Expect.same("lastTime() from " + process, sim.lastTime(), 13 + process);
            Expect.same("handled by the target", sim.handled((process + 2) % 4, 200), 1);
            sim.clear();
        }
    }

    private static void firstRulesStay() {
        OptimisticSim sim = new OptimisticSim();
        sim.clear();
        sim.inject(1, 10, Expect.what(15, 1));
        Expect.same("state(0, 11)", sim.state(0, 11), 5);
        sim.clear();
        sim.inject(1, 10, Expect.what(7, 1));
        Expect.same("events() under mask 15", sim.events(), 1);
    }

    private static void rulesCanBeSet() {
        OptimisticSim sim = clearedOfAll();
        Expect.same("rule behind clear", sim.rule(0, 3, 9, 0), 0);
        sim.clear();
        sim.inject(0, 10, Expect.what(0, 1));
        Expect.same("lastTime() by the newer rule", sim.lastTime(), 19);
        Expect.same("handled(3, 19)", sim.handled(3, 19), 1);
    }
}
