/** Promise 12: in each call refusals are tested in the order in which they are named. */
public final class Promise12OrderTest {
    public static void main(String[] args) {
        orderInRule();
        orderInInject();
        orderInCommit();
        orderInHandled();
        Expect.end("Promise12OrderTest");
    }

    private static void orderInRule() {
        OptimisticSim sim = new OptimisticSim();
        for (int round = 0; round < 2; round++) {
            Expect.same("process, delay", sim.rule(4, 0, 0, 0), OptimisticSim.BAD_PROCESS);
            Expect.same("process, mask", sim.rule(-1, 0, 1, 16), OptimisticSim.BAD_PROCESS);
            Expect.same("target, delay", sim.rule(0, 4, 10, 0), OptimisticSim.BAD_PROCESS);
            Expect.same("target, mask", sim.rule(0, -1, 1, -1), OptimisticSim.BAD_PROCESS);
            sim.inject(0, 10, 0);
        }
        Expect.same("process, locked", sim.rule(4, 0, 1, 0), OptimisticSim.BAD_PROCESS);
        Expect.same("target, locked", sim.rule(0, 4, 1, 0), OptimisticSim.BAD_PROCESS);
        Expect.same("delay, locked", sim.rule(0, 0, 0, 0), OptimisticSim.BAD_NUMBER);
        Expect.same("mask, locked", sim.rule(0, 0, 1, 16), OptimisticSim.BAD_NUMBER);
        Expect.same("locked alone", sim.rule(0, 0, 1, 0), OptimisticSim.LOCKED);
    }

    private static void orderInInject() {
        OptimisticSim sim = new OptimisticSim();
        for (int i = 0; i < 24; i++) {
            sim.inject(0, 60, 0);
        }
        sim.commit(50);
        Expect.same("process, number, full", sim.inject(4, 100, 0), OptimisticSim.BAD_PROCESS);
        Expect.same("process, late, full", sim.inject(-1, 20, 0), OptimisticSim.BAD_PROCESS);
        Expect.same("process, full", sim.inject(4, 60, 0), OptimisticSim.BAD_PROCESS);
        Expect.same("number, late, full", sim.inject(0, -1, 0), OptimisticSim.BAD_NUMBER);
        Expect.same("number, full", sim.inject(0, 100, 0), OptimisticSim.BAD_NUMBER);
        Expect.same("late, full", sim.inject(0, 50, 0), OptimisticSim.LATE);
        Expect.same("full alone", sim.inject(0, 51, 0), OptimisticSim.FULL);
        sim.commit(200);
        Expect.same("number, late at horizon 200", sim.inject(0, 150, 0), OptimisticSim.BAD_NUMBER);
    }

    private static void orderInCommit() {
        OptimisticSim sim = new OptimisticSim();
        sim.commit(50);
        Expect.same("number, late", sim.commit(-1), OptimisticSim.BAD_NUMBER);
        Expect.same("late alone", sim.commit(0), OptimisticSim.LATE);
    }

    private static void orderInHandled() {
        OptimisticSim sim = new OptimisticSim();
        sim.commit(50);
        Expect.same("process, below", sim.handled(4, 10), OptimisticSim.BAD_PROCESS);
        Expect.same("process, above", sim.handled(-1, 201), OptimisticSim.BAD_PROCESS);
        Expect.same("below alone", sim.handled(0, 49), OptimisticSim.LATE);
        Expect.same("above alone", sim.handled(0, 201), OptimisticSim.LATE);
    }
}
