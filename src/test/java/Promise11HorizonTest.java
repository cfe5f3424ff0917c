/** Promise 11: horizon tells the horizon; asking changes nothing. */
public final class Promise11HorizonTest {
    public static void main(String[] args) {
        followsCommitAlone();
        askingChangesNothing();
        Expect.end("Promise11HorizonTest");
    }

    private static void followsCommitAlone() {
        OptimisticSim sim = new OptimisticSim();
        Expect.same("horizon() at the start", sim.horizon(), -1);
        sim.rule(0, 1, 1, 0);
        sim.inject(0, 30, Expect.what(0, 3));
        sim.work(0, 10);
        Expect.same("horizon() before a commit", sim.horizon(), -1);
        for (int time = 0; time <= 200; time += 25) {
            sim.commit(time);
            Expect.same("horizon() behind commit(" + time + ")", sim.horizon(), time);
            sim.commit(time - 1);
            sim.commit(201);
            Expect.same("horizon() behind refusals", sim.horizon(), time);
        }
        sim.clear();
        Expect.same("horizon() behind clear", sim.horizon(), -1);
    }

    private static void askingChangesNothing() {
        OptimisticSim sim = new OptimisticSim();
        sim.rule(1, 2, 4, 0);
        sim.inject(1, 30, Expect.what(2, 2));
        sim.commit(31);
        String first = Expect.view(sim);
        for (int i = -3; i < 7; i++) {
            sim.state(i, i * 40);
            sim.handled(i, i * 40);
            sim.lastTime();
            sim.events();
            sim.horizon();
        }
        Expect.same("the view, asked again", Expect.view(sim), first);
        Expect.same("inject behind asking", sim.inject(1, 32, 0), 2);
    }
}
