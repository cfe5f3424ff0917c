/** Promise 7: state of a process behind its events up to a time; with it what handling is. */
public final class Promise07StateTest {
    public static void main(String[] args) {
        stateStepsWithEvents();
        orderOfEqualTimes();
        stateWraps();
        negativeStateSends();
        sentEventsMeetInjectedOnes();
        wrongInputs();
        timesThatCanBeAskedFor();
        Expect.end("Promise07StateTest");
    }

    private static void stateStepsWithEvents() {
        OptimisticSim sim = new OptimisticSim();
        sim.inject(2, 30, Expect.what(7, 0));
        sim.inject(2, 10, Expect.what(0, 0));
        sim.inject(2, 20, Expect.what(15, 0));
        int[] times = {-1, 0, 9, 10, 19, 20, 29, 30, 31, 200};
        int[] states = {0, 0, 0, 1, 1, 21, 21, 113, 113, 113};
        for (int i = 0; i < times.length; i++) {
            Expect.same("state(2, " + times[i] + ")", sim.state(2, times[i]), states[i]);
            Expect.same("state(1, " + times[i] + ")", sim.state(1, times[i]), 0);
        }
    }

    private static void orderOfEqualTimes() {
        OptimisticSim sim = new OptimisticSim();
        sim.inject(1, 10, Expect.what(9, 0));
        sim.inject(1, 10, Expect.what(2, 0));
        sim.inject(1, 10, Expect.what(5, 0));
        Expect.same("smaller value first", sim.state(1, 10), (3 * 5 + 6) * 5 + 10);

        sim = new OptimisticSim();
        sim.inject(1, 10, Expect.what(2, 3));
        sim.inject(1, 10, Expect.what(9, 0));
        Expect.same("value before life", sim.state(1, 10), 3 * 5 + 10);

        // States 1, then 6: under mask 1 only the second sends, and that must be the longer life.
        sim = new OptimisticSim();
        sim.rule(1, 2, 3, 1);
        sim.inject(1, 10, Expect.what(0, 1));
        sim.inject(1, 10, Expect.what(0, 0));
        Expect.same("smaller life first: state", sim.state(1, 10), 6);
        Expect.same("smaller life first: sent", sim.state(2, 13), 2);

        sim = new OptimisticSim();
        sim.inject(1, 10, Expect.what(4, 2));
        sim.inject(1, 10, Expect.what(4, 2));
        Expect.same("events alike", sim.state(1, 10), 30);
    }

    private static void stateWraps() {
        OptimisticSim sim = new OptimisticSim();
        int due = 0;
        for (int i = 0; i < 24; i++) {
            sim.inject(3, i, Expect.what(15, 0));
            due = due * 5 + 16;
            Expect.same("state(3, " + i + ")", sim.state(3, i), due);
        }
    }

    private static void negativeStateSends() {
        OptimisticSim sim = new OptimisticSim();
        sim.rule(0, 1, 1, 0);
        int due = 0;
        int sent = 0;
        for (int i = 0; i < 24; i++) {
            sim.inject(0, 2 * i, Expect.what(i % 16, 1));
            due = due * 5 + i % 16 + 1;
            sent = sent * 5 + ((due >> 2) & 15) + 1;
            Expect.same("state(1, " + (2 * i + 1) + ")", sim.state(1, 2 * i + 1), sent);
        }
    }

    private static void sentEventsMeetInjectedOnes() {
        OptimisticSim sim = new OptimisticSim();
        sim.rule(0, 1, 5, 0);
        // State 9 sends value 2 to process 1 at time 15, between the values 1 and 3 there.
        sim.inject(0, 10, Expect.what(8, 1));
        sim.inject(1, 15, Expect.what(3, 0));
        sim.inject(1, 15, Expect.what(1, 0));
        Expect.same("state(1, 14)", sim.state(1, 14), 0);
        Expect.same("state(1, 15)", sim.state(1, 15), (2 * 5 + 3) * 5 + 4);
    }

    private static void wrongInputs() {
        OptimisticSim sim = new OptimisticSim();
        for (int process = 0; process < 4; process++) {
            sim.inject(process, 0, Expect.what(process, 0));
        }
        for (int bad : Expect.NOT_PROCESSES) {
            Expect.same("state(" + bad + ", 10)", sim.state(bad, 10), 0);
            Expect.same("state(" + bad + ", 201)", sim.state(bad, 201), 0);
        }
        for (int bad : new int[] {-2, 201, Integer.MIN_VALUE, Integer.MAX_VALUE}) {
            Expect.same("state(1, " + bad + ")", sim.state(1, bad), 0);
        }
        Expect.same("state(1, 200)", sim.state(1, 200), 2);
    }

    private static void timesThatCanBeAskedFor() {
        OptimisticSim sim = new OptimisticSim();
        sim.inject(1, 5, Expect.what(3, 0));
        sim.commit(20);
        Expect.same("state(1, 19), horizon 20", sim.state(1, 19), 0);
        Expect.same("state(1, 20), horizon 20", sim.state(1, 20), 4);
        Expect.same("state(1, 21), horizon 20", sim.state(1, 21), 4);
        Expect.same("state(1, -1), horizon 20", sim.state(1, -1), 0);
        sim.commit(200);
        Expect.same("state(1, 199), horizon 200", sim.state(1, 199), 0);
        Expect.same("state(1, 200), horizon 200", sim.state(1, 200), 4);
    }
}
