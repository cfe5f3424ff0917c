/** Promise 8: handled counts a process's events up to a time. */
public final class Promise08HandledTest {
    public static void main(String[] args) {
        countsInjectedAndSent();
        wrongInputs();
        timesThatCanBeAskedFor();
        Expect.end("Promise08HandledTest");
    }

    private static void countsInjectedAndSent() {
        OptimisticSim sim = new OptimisticSim();
        sim.rule(0, 1, 2, 0);
        sim.rule(1, 1, 3, 0);
        // A chain: process 0 at 10, process 1 at 12, 15 and 18.
        sim.inject(0, 10, Expect.what(0, 3));
        sim.inject(1, 12, Expect.what(0, 0));
        int[] times = {-1, 0, 9, 10, 11, 12, 14, 15, 17, 18, 200};
        int[] ofZero = {0, 0, 0, 1, 1, 1, 1, 1, 1, 1, 1};
        int[] ofOne = {0, 0, 0, 0, 0, 2, 2, 3, 3, 4, 4};
        for (int i = 0; i < times.length; i++) {
            Expect.same("handled(0, " + times[i] + ")", sim.handled(0, times[i]), ofZero[i]);
            Expect.same("handled(1, " + times[i] + ")", sim.handled(1, times[i]), ofOne[i]);
            Expect.same("handled(2, " + times[i] + ")", sim.handled(2, times[i]), 0);
        }
    }

    private static void wrongInputs() {
        OptimisticSim sim = new OptimisticSim();
        sim.inject(0, 0, 0);
        for (int bad : Expect.NOT_PROCESSES) {
            Expect.same("handled(" + bad + ", 10)", sim.handled(bad, 10), OptimisticSim.BAD_PROCESS);
        }
        for (int bad : new int[] {-2, 201, Integer.MIN_VALUE, Integer.MAX_VALUE}) {
            Expect.same("handled(0, " + bad + ")", sim.handled(0, bad), OptimisticSim.LATE);
        }
    }

    private static void timesThatCanBeAskedFor() {
        OptimisticSim sim = new OptimisticSim();
        Expect.same("handled(3, -1), horizon -1", sim.handled(3, -1), 0);
        sim.inject(3, 5, 0);
        sim.commit(0);
        Expect.same("handled(3, -1), horizon 0", sim.handled(3, -1), OptimisticSim.LATE);
        Expect.same("handled(3, 0), horizon 0", sim.handled(3, 0), 0);
        sim.commit(20);
        Expect.same("handled(3, 19), horizon 20", sim.handled(3, 19), OptimisticSim.LATE);
        Expect.same("handled(3, 20), horizon 20", sim.handled(3, 20), 1);
        sim.commit(200);
        Expect.same("handled(3, 199), horizon 200", sim.handled(3, 199), OptimisticSim.LATE);
        Expect.same("handled(3, 200), horizon 200", sim.handled(3, 200), 1);
        sim.clear();
        Expect.same("handled(3, -1) behind clear", sim.handled(3, -1), 0);
    }
}
