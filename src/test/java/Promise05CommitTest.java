/** Promise 5: commit moves the horizon and answers how many events lie up to it. */
public final class Promise05CommitTest {
    public static void main(String[] args) {
        countsOverAllProcesses();
        wrongTimesAreRefused();
        edgesOfTime();
        lastsForGood();
        countsEventsInjectedLater();
        Expect.end("Promise05CommitTest");
    }

    /** Events at 10, 14, 18, 22 (a chain over processes 0, 1, 0, 1), at 14 and at 99. */
    private static OptimisticSim sample() {
        OptimisticSim sim = new OptimisticSim();
        sim.rule(0, 1, 4, 0);
        sim.rule(1, 0, 4, 0);
        sim.inject(0, 10, Expect.what(1, 3));
        sim.inject(2, 14, Expect.what(1, 0));
        sim.inject(3, 99, Expect.what(1, 0));
        return sim;
    }

    private static void countsOverAllProcesses() {
        int[] times = {0, 9, 10, 13, 14, 17, 18, 21, 22, 98, 99, 100, 200};
        int[] counts = {0, 0, 1, 1, 3, 3, 4, 4, 5, 5, 6, 6, 6};
        OptimisticSim stepped = sample();
        for (int i = 0; i < times.length; i++) {
            Expect.same("commit(" + times[i] + ")", sample().commit(times[i]), counts[i]);
            Expect.same("commit(" + times[i] + ") in steps", stepped.commit(times[i]), counts[i]);
            Expect.same("horizon()", stepped.horizon(), times[i]);
            Expect.same("commit again", stepped.commit(times[i]), counts[i]);
            Expect.same("events()", stepped.events(), 6);
        }
    }

    private static void wrongTimesAreRefused() {
        OptimisticSim sim = sample();
        for (int bad : new int[] {-1, -2, 201, Integer.MIN_VALUE, Integer.MAX_VALUE}) {
            Expect.same("commit(" + bad + ")", sim.commit(bad), OptimisticSim.BAD_NUMBER);
            Expect.same("horizon() behind commit(" + bad + ")", sim.horizon(), -1);
        }
        sim.commit(20);
        String before = Expect.view(sim);
        Expect.same("commit(19), horizon 20", sim.commit(19), OptimisticSim.LATE);
        Expect.same("commit(0), horizon 20", sim.commit(0), OptimisticSim.LATE);
        Expect.same("commit(-1), horizon 20", sim.commit(-1), OptimisticSim.BAD_NUMBER);
        Expect.same("commit(201), horizon 20", sim.commit(201), OptimisticSim.BAD_NUMBER);
        Expect.same("the view behind refusals", Expect.view(sim), before);
    }

    private static void edgesOfTime() {
        OptimisticSim sim = new OptimisticSim();
        Expect.same("commit(0)", sim.commit(0), 0);
        Expect.same("horizon()", sim.horizon(), 0);
        Expect.same("commit(200)", sim.commit(200), 0);
        Expect.same("horizon()", sim.horizon(), 200);
        Expect.same("commit(199)", sim.commit(199), OptimisticSim.LATE);
    }

    private static void lastsForGood() {
        OptimisticSim sim = sample();
        sim.commit(14);
        sim.work(0, 9);
        sim.inject(0, 15, 0);
        sim.inject(0, 14, 0);
        sim.rule(0, 0, 1, 0);
        sim.state(0, 3);
        Expect.same("horizon() later", sim.horizon(), 14);
    }

    private static void countsEventsInjectedLater() {
        OptimisticSim sim = sample();
        sim.commit(14);
        sim.inject(2, 15, Expect.what(0, 0));
        Expect.same("commit(14) again", sim.commit(14), 3);
        Expect.same("commit(15)", sim.commit(15), 4);
        Expect.same("commit(200)", sim.commit(200), 7);
    }
}
