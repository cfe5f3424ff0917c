import java.util.function.Consumer;

/** Promise 8: handled counts a process's events up to a time. */
public final class Promise08HandledTest {
    public static void main(String[] args) {
        Expect.sentence("How many events with times up to 'time' the process handles", Promise08HandledTest::upToTheTime);
        Expect.sentence("How many events ...: none and all 96", Promise08HandledTest::noneAndAll);
        Expect.sentence("BAD_PROCESS", Promise08HandledTest::badProcess);
        Expect.sentence("LATE if the time can't be asked for: below the horizon", Promise08HandledTest::belowTheHorizon);
        Expect.sentence("LATE if the time can't be asked for: above 200", Promise08HandledTest::aboveTwoHundred);
        Expect.sentence("The calls below change nothing: refused ones neither", Promise08HandledTest::nothingChanges);
        Expect.end("Promise08HandledTest");
    }

    private static void upToTheTime() {
        OptimisticSim sim = new OptimisticSim();
        sim.rule(0, 1, 2, 0);
        sim.rule(1, 1, 3, 0);
        // A chain: process 0 at 10, process 1 at 12, 15 and 18.
        sim.inject(0, 10, Expect.what(0, 3));
        sim.inject(1, 12, Expect.what(0, 0));
        int[] times = {-1, 0, 9, 10, 11, 12, 14, 15, 17, 18, 200};
        int[] ofZero = {0, 0, 0, 1, 1, 1, 1, 1, 1, 1, 1};
        int[] ofOne = {0, 0, 0, 0, 0, 2, 2, 3, 3, 4, 4};
        for (int i = 0; i < times.length; i++) {
            Expect.same("handled(0, " + times[i] + ")", sim.handled(0, times[i]), ofZero[i]);
            Expect.same("handled(1, " + times[i] + ")", sim.handled(1, times[i]), ofOne[i]);
            Expect.same("handled(2, " + times[i] + ")", sim.handled(2, times[i]), 0);
        }
    }

    private static void noneAndAll() {
        OptimisticSim sim = new OptimisticSim();
        sim.rule(2, 2, 9, 0);
        for (int i = 0; i < 24; i++) {
            sim.inject(2, 99, Expect.what(i % 16, 3));
        }
        Expect.same("handled(2, -1)", sim.handled(2, -1), 0);
        Expect.same("handled(2, 98)", sim.handled(2, 98), 0);
        Expect.same("handled(2, 99)", sim.handled(2, 99), 24);
        Expect.same("handled(2, 107)", sim.handled(2, 107), 24);
        Expect.same("handled(2, 108)", sim.handled(2, 108), 48);
        Expect.same("handled(2, 125)", sim.handled(2, 125), 72);
        Expect.same("handled(2, 126)", sim.handled(2, 126), 96);
        Expect.same("handled(2, 200)", sim.handled(2, 200), 96);
        Expect.same("handled(3, 200)", sim.handled(3, 200), 0);
        sim.commit(126);
        Expect.same("handled(2, 126), horizon 126", sim.handled(2, 126), 96);
    }

    private static void badProcess() {
        OptimisticSim sim = new OptimisticSim();
        for (int round = 0; round < 2; round++) {
            for (int process : Expect.NOT_PROCESSES) {
                for (int time : new int[] {-2, -1, 0, 10, 200, 201}) {
                    Expect.same("handled(" + process + ", " + time + ")", sim.handled(process, time), OptimisticSim.BAD_PROCESS);
                }
            }
            for (int process : Expect.PROCESS_EDGES) {
                Expect.same("handled(" + process + ", 10)", sim.handled(process, 10), round);
                sim.inject(process, 10, 0);
            }
        }
    }

    private static void belowTheHorizon() {
        OptimisticSim sim = new OptimisticSim();
        sim.inject(3, 5, 0);
        Expect.same("handled(3, -2), horizon -1", sim.handled(3, -2), OptimisticSim.LATE);
        Expect.same("handled(3, the least), horizon -1", sim.handled(3, Integer.MIN_VALUE), OptimisticSim.LATE);
        Expect.same("handled(3, -1), horizon -1", sim.handled(3, -1), 0);
        int[] horizons = {0, 4, 5, 20, 100, 199, 200};
        int[] counts = {0, 0, 1, 1, 1, 1, 1};
        for (int i = 0; i < horizons.length; i++) {
            sim.commit(horizons[i]);
            String text = ", horizon " + horizons[i];
            Expect.same("handled(3, -1)" + text, sim.handled(3, -1), OptimisticSim.LATE);
            Expect.same("handled below it" + text, sim.handled(3, horizons[i] - 1), OptimisticSim.LATE);
            Expect.same("handled at it" + text, sim.handled(3, horizons[i]), counts[i]);
        }
        sim.clear();
        Expect.same("handled(3, -1) behind clear", sim.handled(3, -1), 0);
    }

    private static void aboveTwoHundred() {
        OptimisticSim sim = new OptimisticSim();
        sim.inject(0, 0, 0);
        for (int round = 0; round < 2; round++) {
            for (int time : new int[] {201, 202, Integer.MAX_VALUE}) {
                Expect.same("handled(0, " + time + ")", sim.handled(0, time), OptimisticSim.LATE);
            }
            Expect.same("handled(0, 200)", sim.handled(0, 200), 1);
            sim.commit(200);
        }
    }

    private static void nothingChanges() {
        nothingChangesBehind(Past::none);
        nothingChangesBehind(Past::committed);
        nothingChangesBehind(Past::full);
        Expect.refused("handled(0, 34), horizon 35", Past::committed, sim -> sim.handled(0, 34), OptimisticSim.LATE);
        Expect.refused("handled(0, -1), horizon 35", Past::committed, sim -> sim.handled(0, -1), OptimisticSim.LATE);
    }

    private static void nothingChangesBehind(Consumer<OptimisticSim> past) {
        Expect.refused("handled(-1, 50)", past, sim -> sim.handled(-1, 50), OptimisticSim.BAD_PROCESS);
        Expect.refused("handled(4, 50)", past, sim -> sim.handled(4, 50), OptimisticSim.BAD_PROCESS);
        Expect.refused("handled(0, -2)", past, sim -> sim.handled(0, -2), OptimisticSim.LATE);
        Expect.refused("handled(0, 201)", past, sim -> sim.handled(0, 201), OptimisticSim.LATE);
    }
}
