/** Objects to begin with, each told by the calls that lead to it. */
final class Past {
    private Past() {
    }

    static void none(OptimisticSim sim) {
    }

    static void rules(OptimisticSim sim) {
        sim.rule(0, 1, 2, 0);
        sim.rule(1, 3, 9, 1);
        sim.rule(2, 2, 1, 6);
        sim.rule(3, 0, 4, 0);
    }

    static void events(OptimisticSim sim) {
        rules(sim);
        sim.inject(0, 30, Expect.what(6, 3));
        sim.inject(1, 32, Expect.what(2, 3));
        sim.inject(2, 10, Expect.what(15, 2));
        sim.inject(3, 45, Expect.what(9, 1));
        sim.inject(0, 0, Expect.what(3, 3));
        sim.inject(3, 99, Expect.what(0, 3));
    }

    static void committed(OptimisticSim sim) {
        events(sim);
        sim.commit(35);
    }

    static void committedToTheEnd(OptimisticSim sim) {
        events(sim);
        sim.commit(200);
    }

    static void full(OptimisticSim sim) {
        rules(sim);
        for (int i = 0; i < 24; i++) {
            sim.inject(i % 4, 40 + i * 7 % 60, Expect.what(i * 5 % 16, i % 3 + 1));
        }
    }

    static void fullAndCommitted(OptimisticSim sim) {
        full(sim);
        sim.commit(35);
    }

    static void cleared(OptimisticSim sim) {
        fullAndCommitted(sim);
        sim.clear();
    }
}
