/** Promise 3: inject takes up to 24 events, with value and life from 'what'. */
public final class Promise03InjectTest {
    public static void main(String[] args) {
        answersHowMany();
        valueAndLifeComeFromWhat();
        edgesOfTime();
        wrongInputsAreRefused();
        lateEventsAreRefused();
        refusalsChangeNothing();
        earlierEventRedoesLaterOnes();
        Expect.end("Promise03InjectTest");
    }

    private static void answersHowMany() {
        OptimisticSim sim = new OptimisticSim();
        for (int round = 0; round < 2; round++) {
            for (int i = 1; i <= 24; i++) {
                Expect.same("inject number " + i, sim.inject(i % 4, i * 3, i * 7), i);
            }
            Expect.same("inject number 25", sim.inject(0, 50, 0), OptimisticSim.FULL);
            Expect.same("inject number 26", sim.inject(3, 99, 0), OptimisticSim.FULL);
            sim.clear();
        }
    }

    private static void valueAndLifeComeFromWhat() {
        for (int low = 0; low < 64; low++) {
            for (int high : new int[] {0, 64, 128, 0x7FFFFFC0, -64, Integer.MIN_VALUE}) {
                OptimisticSim sim = new OptimisticSim();
                sim.rule(0, 1, 1, 0);
                sim.rule(1, 2, 1, 0);
                sim.rule(2, 3, 1, 0);
                sim.rule(3, 0, 1, 0);
                sim.inject(0, 5, low | high);
                String call = "inject(0, 5, " + (low | high) + ")";
                Expect.same(call + ": state(0, 5)", sim.state(0, 5), (low & 15) + 1);
                Expect.same(call + ": events()", sim.events(), 1 + low / 16);
            }
        }
    }

    private static void edgesOfTime() {
        OptimisticSim sim = new OptimisticSim();
        Expect.same("inject at 0", sim.inject(0, 0, 0), 1);
        Expect.same("inject at 99", sim.inject(3, 99, 0), 2);
        Expect.same("handled(0, 0)", sim.handled(0, 0), 1);
        Expect.same("handled(3, 98)", sim.handled(3, 98), 0);
        Expect.same("handled(3, 99)", sim.handled(3, 99), 1);
    }

    private static void wrongInputsAreRefused() {
        OptimisticSim sim = new OptimisticSim();
        for (int bad : Expect.NOT_PROCESSES) {
            Expect.same("inject process " + bad, sim.inject(bad, 5, 0), OptimisticSim.BAD_PROCESS);
        }
        for (int bad : new int[] {-1, 100, 200, Integer.MIN_VALUE, Integer.MAX_VALUE}) {
            Expect.same("inject time " + bad, sim.inject(0, bad, 0), OptimisticSim.BAD_NUMBER);
        }
        Expect.same("events()", sim.events(), 0);
        Expect.same("first inject", sim.inject(0, 5, 0), 1);
    }

    private static void lateEventsAreRefused() {
        OptimisticSim sim = new OptimisticSim();
        sim.commit(0);
        Expect.same("inject at 0, horizon 0", sim.inject(0, 0, 0), OptimisticSim.LATE);
        Expect.same("inject at 1, horizon 0", sim.inject(0, 1, 0), 1);
        sim.commit(40);
        Expect.same("inject at 39, horizon 40", sim.inject(0, 39, 0), OptimisticSim.LATE);
        Expect.same("inject at 40, horizon 40", sim.inject(0, 40, 0), OptimisticSim.LATE);
        Expect.same("inject at 41, horizon 40", sim.inject(0, 41, 0), 2);
        sim.commit(99);
        Expect.same("inject at 99, horizon 99", sim.inject(0, 99, 0), OptimisticSim.LATE);
        sim.clear();
        Expect.same("inject at 0 behind clear", sim.inject(0, 0, 0), 1);
    }

    private static void refusalsChangeNothing() {
        OptimisticSim sim = new OptimisticSim();
        sim.rule(1, 2, 3, 0);
        sim.inject(1, 30, Expect.what(6, 3));
        sim.commit(10);
        String before = Expect.view(sim);
        sim.inject(-1, 50, 9);
        sim.inject(1, 100, 9);
        sim.inject(1, 10, 9);
        Expect.same("the view behind refusals", Expect.view(sim), before);
        for (int i = 2; i <= 24; i++) {
            Expect.same("inject number " + i, sim.inject(i % 4, 60, i), i);
        }
        before = Expect.view(sim);
        sim.inject(1, 50, 9);
        Expect.same("the view behind FULL", Expect.view(sim), before);
    }

    private static void earlierEventRedoesLaterOnes() {
        OptimisticSim sim = new OptimisticSim();
        sim.rule(0, 1, 2, 1);
        sim.inject(0, 10, Expect.what(3, 1));
        // State 4 is even: value 1 was sent to process 1 at time 12.
        Expect.same("state(1, 12)", sim.state(1, 12), 2);
        sim.inject(0, 5, Expect.what(0, 1));
        // Now 1, then 1 * 5 + 4 = 9: both odd, and nothing is sent any more.
        Expect.same("state(0, 10)", sim.state(0, 10), 9);
        Expect.same("handled(1, 12)", sim.handled(1, 12), 0);
        Expect.same("events()", sim.events(), 2);
        sim.inject(0, 7, Expect.what(2, 0));
        // 1, then 8, then 44: 44 is even again, and sends value 11.
        Expect.same("state(0, 10) again", sim.state(0, 10), 44);
        Expect.same("state(1, 12) again", sim.state(1, 12), 12);
        Expect.same("events() again", sim.events(), 4);
    }
}
