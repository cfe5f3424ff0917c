/** Promise 1: no events; every rule has target 0, delay 1, mask 15; the horizon is -1. */
public final class Promise01NewObjectTest {
    public static void main(String[] args) {
        nothingIsThere();
        rulesAreTheFirstOnes();
        maskOfEachProcessIsFifteen();
        objectsAreApart();
        Expect.end("Promise01NewObjectTest");
    }

    private static void nothingIsThere() {
        OptimisticSim sim = new OptimisticSim();
        Expect.same("horizon()", sim.horizon(), -1);
        Expect.same("events()", sim.events(), 0);
        Expect.same("lastTime()", sim.lastTime(), -1);
        for (int process = 0; process < 4; process++) {
            for (int time : new int[] {-1, 0, 99, 200}) {
                Expect.same("state(" + process + ", " + time + ")", sim.state(process, time), 0);
                Expect.same("handled(" + process + ", " + time + ")", sim.handled(process, time), 0);
            }
        }
        Expect.same("commit(200) of nothing", sim.commit(200), 0);
    }

    private static void rulesAreTheFirstOnes() {
        for (int process = 0; process < 4; process++) {
            OptimisticSim sim = new OptimisticSim();
            // State 16 has no bit under the mask 15: value 4 goes to process 0 at time 11.
            sim.inject(process, 10, Expect.what(15, 1));
            Expect.same("events() from " + process, sim.events(), 2);
            Expect.same("lastTime() from " + process, sim.lastTime(), 11);
            Expect.same("state(0, 11) from " + process, sim.state(0, 11), process == 0 ? 85 : 5);
        }
    }

    private static void maskOfEachProcessIsFifteen() {
        for (int process = 0; process < 4; process++) {
            for (int value : new int[] {0, 1, 3, 7}) {
                OptimisticSim sim = new OptimisticSim();
                sim.inject(process, 10, Expect.what(value, 3));
                Expect.same("events() of value " + value + " at " + process, sim.events(), 1);
            }
        }
    }

    private static void objectsAreApart() {
        OptimisticSim first = new OptimisticSim();
        first.rule(1, 2, 5, 0);
        first.inject(1, 10, Expect.what(3, 3));
        first.commit(50);
        OptimisticSim second = new OptimisticSim();
        Expect.same("horizon() of a second object", second.horizon(), -1);
        Expect.same("events() of a second object", second.events(), 0);
        second.inject(1, 10, Expect.what(3, 3));
        Expect.same("events() by the second object's rule", second.events(), 1);
        Expect.same("events() of the first object still", first.events(), 2);
    }
}
