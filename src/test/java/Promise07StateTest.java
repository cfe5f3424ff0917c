import java.util.function.Consumer;

/** Promise 7: the state of a process behind its events up to a time. */
public final class Promise07StateTest {
    public static void main(String[] args) {
        Expect.sentence("The process's state behind all its events with times up to 'time'", Promise07StateTest::upToTheTime);
        Expect.sentence("behind all its events: several at one time", Promise07StateTest::allOfOneTime);
        Expect.sentence("behind all its events: those sent to it", Promise07StateTest::sentOnesToo);
        Expect.sentence("behind all its events: none", Promise07StateTest::noEvents);
        Expect.sentence("0 if process is not in 0 to 3", Promise07StateTest::badProcess);
        Expect.sentence("0 if ... the time can't be asked for: below the horizon", Promise07StateTest::belowTheHorizon);
        Expect.sentence("0 if ... the time can't be asked for: above 200", Promise07StateTest::aboveTwoHundred);
        Expect.sentence("The calls below change nothing: refused ones neither", Promise07StateTest::nothingChanges);
        Expect.end("Promise07StateTest");
    }

    private static void upToTheTime() {
        OptimisticSim sim = new OptimisticSim();
        sim.inject(2, 30, Expect.what(7, 0));
        sim.inject(2, 10, Expect.what(0, 0));
        sim.inject(2, 20, Expect.what(15, 0));
        int[] times = {-1, 0, 9, 10, 19, 20, 29, 30, 31, 200};
        int[] states = {0, 0, 0, 1, 1, 21, 21, 113, 113, 113};
        for (int i = 0; i < times.length; i++) {
            Expect.same("state(2, " + times[i] + ")", sim.state(2, times[i]), states[i]);
            Expect.same("state(1, " + times[i] + ")", sim.state(1, times[i]), 0);
        }
        // What is asked for later or earlier answers the same again.
        for (int i = times.length - 1; i >= 0; i--) {
            Expect.same("state(2, " + times[i] + ")", sim.state(2, times[i]), states[i]);
        }
    }

    private static void allOfOneTime() {
        OptimisticSim sim = new OptimisticSim();
        sim.inject(3, 0, Expect.what(1, 0));
        sim.inject(3, 0, Expect.what(0, 0));
        sim.inject(3, 99, Expect.what(3, 0));
        sim.inject(3, 99, Expect.what(2, 0));
        Expect.same("state(3, -1)", sim.state(3, -1), 0);
        Expect.same("state(3, 0)", sim.state(3, 0), 7);
        Expect.same("state(3, 98)", sim.state(3, 98), 7);
        Expect.same("state(3, 99)", sim.state(3, 99), 194);
    }

    private static void sentOnesToo() {
        OptimisticSim sim = new OptimisticSim();
        sim.rule(0, 1, 9, 0);
        sim.rule(1, 0, 9, 0);
        sim.inject(0, 99, Expect.what(15, 3));
        // States 16, 5 (value 4), 16 * 5 + 2 (value 1), 5 * 5 + 5 (value 82 / 4 % 16 = 4).
        Expect.same("state(0, 99)", sim.state(0, 99), 16);
        Expect.same("state(1, 107)", sim.state(1, 107), 0);
        Expect.same("state(1, 108)", sim.state(1, 108), 5);
        Expect.same("state(0, 116)", sim.state(0, 116), 16);
        Expect.same("state(0, 117)", sim.state(0, 117), 82);
        Expect.same("state(1, 125)", sim.state(1, 125), 5);
        Expect.same("state(1, 126)", sim.state(1, 126), 30);
        Expect.same("state(1, 200)", sim.state(1, 200), 30);
    }

    private static void noEvents() {
        OptimisticSim sim = new OptimisticSim();
        sim.inject(0, 50, Expect.what(1, 0));
        for (int process = 1; process < 4; process++) {
            Expect.same("state(" + process + ", 200)", sim.state(process, 200), 0);
        }
        Expect.same("state(0, 49)", sim.state(0, 49), 0);
        sim.commit(20);
        Expect.same("state(0, 20), horizon 20", sim.state(0, 20), 0);
    }

    private static OptimisticSim oneAtEach() {
        OptimisticSim sim = new OptimisticSim();
        for (int process = 0; process < 4; process++) {
            sim.inject(process, 0, Expect.what(process, 0));
        }
        return sim;
    }

    private static void badProcess() {
        OptimisticSim sim = oneAtEach();
        for (int process : Expect.NOT_PROCESSES) {
            for (int time : new int[] {-2, -1, 0, 10, 200, 201}) {
                Expect.same("state(" + process + ", " + time + ")", sim.state(process, time), 0);
            }
        }
        for (int process : Expect.PROCESS_EDGES) {
            Expect.same("state(" + process + ", 10)", sim.state(process, 10), process + 1);
        }
    }

    private static void belowTheHorizon() {
        for (int horizon : new int[] {1, 20, 99, 100, 200}) {
            OptimisticSim sim = oneAtEach();
            Expect.same("state(1, " + (horizon - 1) + ") before", sim.state(1, horizon - 1), 2);
            sim.commit(horizon);
            String text = ", horizon " + horizon;
            Expect.same("state(1, 0)" + text, sim.state(1, 0), 0);
            Expect.same("state(1, -1)" + text, sim.state(1, -1), 0);
            Expect.same("state(1, the least)" + text, sim.state(1, Integer.MIN_VALUE), 0);
            Expect.same("state below it" + text, sim.state(1, horizon - 1), 0);
            Expect.same("state at it" + text, sim.state(1, horizon), 2);
        }
    }

    private static void aboveTwoHundred() {
        OptimisticSim sim = oneAtEach();
        for (int time : new int[] {201, 202, Integer.MAX_VALUE}) {
            Expect.same("state(1, " + time + ")", sim.state(1, time), 0);
        }
        Expect.same("state(1, 200)", sim.state(1, 200), 2);
        Expect.same("state(1, 199)", sim.state(1, 199), 2);
    }

    private static void nothingChanges() {
        nothingChangesBehind(Past::none);
        nothingChangesBehind(Past::committed);
        nothingChangesBehind(Past::full);
        Expect.refused("state(0, 34), horizon 35", Past::committed, sim -> sim.state(0, 34), 0);
        Expect.refused("state(0, -1), horizon 35", Past::committed, sim -> sim.state(0, -1), 0);
    }

    private static void nothingChangesBehind(Consumer<OptimisticSim> past) {
        Expect.refused("state(-1, 50)", past, sim -> sim.state(-1, 50), 0);
        Expect.refused("state(4, 50)", past, sim -> sim.state(4, 50), 0);
        Expect.refused("state(0, -2)", past, sim -> sim.state(0, -2), 0);
        Expect.refused("state(0, 201)", past, sim -> sim.state(0, 201), 0);
    }
}
