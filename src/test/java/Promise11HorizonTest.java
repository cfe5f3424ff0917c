/** Promise 11: horizon tells the horizon. */
public final class Promise11HorizonTest {
    public static void main(String[] args) {
        Expect.sentence("The horizon: -1 at the start", Promise11HorizonTest::atTheStart);
        Expect.sentence("The horizon: as committed, from 0 to 200", Promise11HorizonTest::asCommitted);
        Expect.sentence("The horizon: not moved by refused commits", Promise11HorizonTest::notByRefusals);
        Expect.sentence("The horizon: not moved by other calls", Promise11HorizonTest::notByOtherCalls);
        Expect.sentence("The horizon: -1 behind clear", Promise11HorizonTest::behindClear);
        Expect.end("Promise11HorizonTest");
    }

    private static void atTheStart() {
        Expect.same("horizon()", new OptimisticSim().horizon(), -1);
    }

    private static void asCommitted() {
        for (int time : new int[] {0, 1, 99, 100, 199, 200}) {
            OptimisticSim sim = new OptimisticSim();
            sim.commit(time);
            Expect.same("horizon() behind commit(" + time + ")", sim.horizon(), time);
            Expect.same("horizon() again", sim.horizon(), time);
        }
    }

    private static void notByRefusals() {
        OptimisticSim sim = new OptimisticSim();
        sim.commit(-1);
        sim.commit(201);
        Expect.same("horizon() behind refusals", sim.horizon(), -1);
        for (int time = 0; time <= 200; time += 25) {
            sim.commit(time);
            sim.commit(time - 1);
            sim.commit(0);
            sim.commit(201);
            sim.commit(Integer.MAX_VALUE);
            Expect.same("horizon() behind refusals", sim.horizon(), time);
        }
    }

    private static void notByOtherCalls() {
        for (int horizon = -1; horizon <= 50; horizon += 51) {
            OptimisticSim sim = new OptimisticSim();
            if (horizon >= 0) {
                sim.commit(horizon);
            }
            sim.rule(0, 1, 1, 0);
            sim.inject(0, 60, Expect.what(0, 3));
            sim.work(0, 10);
            sim.state(0, 100);
            sim.handled(0, 100);
            sim.lastTime();
            sim.events();
            Expect.same("horizon()", sim.horizon(), horizon);
        }
    }

    private static void behindClear() {
        OptimisticSim sim = new OptimisticSim();
        for (int time = 0; time <= 200; time += 50) {
            sim.commit(time);
            sim.clear();
            Expect.same("horizon() behind clear", sim.horizon(), -1);
        }
    }
}
