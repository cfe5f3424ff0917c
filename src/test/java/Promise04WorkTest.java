/** Promise 4: work answers 0 or BAD_PROCESS and changes nothing that another call answers. */
public final class Promise04WorkTest {
    private static final int[] AMOUNTS = {0, 1, 2, 3, 24, 96, 1000, -1, Integer.MIN_VALUE, Integer.MAX_VALUE};

    public static void main(String[] args) {
        answers();
        changesNothing();
        workAheadIsUndoneUnseen();
        Expect.end("Promise04WorkTest");
    }

    private static void answers() {
        OptimisticSim sim = new OptimisticSim();
        for (int round = 0; round < 2; round++) {
            for (int n : AMOUNTS) {
                for (int process = 0; process < 4; process++) {
                    Expect.same("work(" + process + ", " + n + ")", sim.work(process, n), 0);
                }
                for (int bad : Expect.NOT_PROCESSES) {
                    Expect.same("work(" + bad + ", " + n + ")", sim.work(bad, n), OptimisticSim.BAD_PROCESS);
                }
            }
            sim.inject(round, 10, Expect.what(3, 2));
        }
    }

    private static void changesNothing() {
        String before = Expect.view(sample());
        for (int n : AMOUNTS) {
            for (int process = -1; process <= 4; process++) {
                OptimisticSim sim = sample();
                sim.work(process, n);
                sim.work(process, n);
                Expect.same("the view behind work(" + process + ", " + n + ")", Expect.view(sim), before);
                Expect.same("inject behind work(" + process + ", " + n + ")", sim.inject(0, 36, 0), 9);
            }
        }
    }

    private static OptimisticSim sample() {
        OptimisticSim sim = new OptimisticSim();
        for (int process = 0; process < 4; process++) {
            sim.rule(process, (process + 1) % 4, process + 1, 0);
        }
        for (int i = 0; i < 8; i++) {
            sim.inject(i % 4, 40 - i, Expect.what(i, 3));
        }
        sim.commit(35);
        return sim;
    }

    private static void workAheadIsUndoneUnseen() {
        OptimisticSim worked = new OptimisticSim();
        OptimisticSim idle = new OptimisticSim();
        for (int process = 0; process < 4; process++) {
            worked.rule(process, 3 - process, 2, process);
            idle.rule(process, 3 - process, 2, process);
        }
        for (int i = 0; i < 24; i++) {
            int time = (i * 37) % 50 + 1;
            int what = i * 29;
            Expect.same("inject beside work", worked.inject(i % 4, time, what), idle.inject(i % 4, time, what));
            worked.work(i % 3, i);
            worked.work(3, Integer.MAX_VALUE);
            if (i % 4 == 3) {
                Expect.same("the view beside work", Expect.view(worked), Expect.view(idle));
            }
        }
        Expect.same("commit(30) beside work", worked.commit(30), idle.commit(30));
    }
}
