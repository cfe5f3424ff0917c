/** Promise 1: no events; every rule has target 0, delay 1, mask 15; the horizon is -1. */
public final class Promise01NewObjectTest {
    public static void main(String[] args) {
        Expect.sentence("No events", Promise01NewObjectTest::noEvents);
        Expect.sentence("every rule has target 0", Promise01NewObjectTest::targetIsZero);
        Expect.sentence("delay 1", Promise01NewObjectTest::delayIsOne);
        Expect.sentence("and mask 15", Promise01NewObjectTest::maskIsFifteen);
        Expect.sentence("the HORIZON is -1", Promise01NewObjectTest::horizonIsMinusOne);
        Expect.sentence("a new object, beside others", Promise01NewObjectTest::objectsAreApart);
        Expect.end("Promise01NewObjectTest");
    }

    private static void noEvents() {
        OptimisticSim sim = new OptimisticSim();
        Expect.same("events()", sim.events(), 0);
        Expect.same("lastTime()", sim.lastTime(), -1);
        for (int process = 0; process < 4; process++) {
            for (int time : new int[] {-1, 0, 99, 200}) {
                Expect.same("state(" + process + ", " + time + ")", sim.state(process, time), 0);
                Expect.same("handled(" + process + ", " + time + ")", sim.handled(process, time), 0);
            }
        }
        Expect.same("commit(200) of nothing", sim.commit(200), 0);
        Expect.same("the first inject", new OptimisticSim().inject(0, 0, 0), 1);
        Expect.same("rule isn't locked", new OptimisticSim().rule(0, 0, 1, 15), 0);
    }

    // State 16 has no bit under the mask 15, and sends value 4.
    private static OptimisticSim sentFrom(int process) {
        OptimisticSim sim = new OptimisticSim();
        sim.inject(process, 10, Expect.what(15, 1));
        return sim;
    }

    private static void targetIsZero() {
        for (int process = 0; process < 4; process++) {
            OptimisticSim sim = sentFrom(process);
            Expect.same("state(0, 200) from " + process, sim.state(0, 200), process == 0 ? 85 : 5);
            Expect.same("handled(0, 200) from " + process, sim.handled(0, 200), process == 0 ? 2 : 1);
            Expect.same("events() from " + process, sim.events(), 2);
        }
    }

    private static void delayIsOne() {
        for (int process = 0; process < 4; process++) {
            OptimisticSim sim = sentFrom(process);
            Expect.same("lastTime() from " + process, sim.lastTime(), 11);
            Expect.same("handled(0, 10) from " + process, sim.handled(0, 10), process == 0 ? 1 : 0);
        }
    }

    private static void maskIsFifteen() {
        for (int process = 0; process < 4; process++) {
            for (int value = 0; value < 16; value++) {
                OptimisticSim sim = new OptimisticSim();
                sim.inject(process, 10, Expect.what(value, 1));
                Expect.same("events() of value " + value + " at " + process, sim.events(), value == 15 ? 2 : 1);
            }
        }
    }

    private static void horizonIsMinusOne() {
        OptimisticSim sim = new OptimisticSim();
        Expect.same("horizon()", sim.horizon(), -1);
        Expect.same("handled(0, -1)", sim.handled(0, -1), 0);
        Expect.same("inject at 0", sim.inject(0, 0, 0), 1);
        Expect.same("commit(0)", sim.commit(0), 1);
    }

    private static void objectsAreApart() {
        OptimisticSim first = new OptimisticSim();
        first.rule(1, 2, 5, 0);
        first.inject(1, 10, Expect.what(3, 3));
        first.commit(50);
        OptimisticSim second = new OptimisticSim();
        Expect.same("horizon() of a second object", second.horizon(), -1);
        Expect.same("events() of a second object", second.events(), 0);
        second.inject(1, 10, Expect.what(3, 3));
        Expect.same("events() by the second object's rule", second.events(), 1);
        Expect.same("events() of the first object still", first.events(), 2);
    }
}
