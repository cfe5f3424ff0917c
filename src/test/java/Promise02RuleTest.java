/** Promise 2: rule sets a process's rule, or refuses and changes nothing. */
public final class Promise02RuleTest {
    private static final int[] NOT_DELAYS = {0, 10, -1, Integer.MIN_VALUE, Integer.MAX_VALUE};
    private static final int[] NOT_MASKS = {-1, 16, Integer.MIN_VALUE, Integer.MAX_VALUE};

    public static void main(String[] args) {
        everyRuleIsTakenAndUsed();
        laterRuleReplacesEarlier();
        wrongInputsAreRefused();
        refusalsChangeNothing();
        lockedByInjectedEventAlone();
        Expect.end("Promise02RuleTest");
    }

    private static void everyRuleIsTakenAndUsed() {
        for (int process = 0; process < 4; process++) {
            for (int target = 0; target < 4; target++) {
                for (int delay = 1; delay <= 9; delay++) {
                    for (int mask = 0; mask <= 15; mask++) {
                        ruleIsUsed(process, target, delay, mask);
                    }
                }
            }
        }
    }

    private static void ruleIsUsed(int process, int target, int delay, int mask) {
        String rule = "rule(" + process + ", " + target + ", " + delay + ", " + mask + ")";
        for (int value = 0; value < 16; value++) {
            OptimisticSim sim = new OptimisticSim();
            Expect.same(rule, sim.rule(process, target, delay, mask), 0);
            sim.inject(process, 20, Expect.what(value, 1));
            int first = value + 1;
            boolean sends = (first & mask) == 0;
            Expect.same(rule + " events() of " + value, sim.events(), sends ? 2 : 1);
            Expect.same(rule + " lastTime() of " + value, sim.lastTime(), sends ? 20 + delay : 20);
            if (sends) {
                int before = process == target ? first : 0;
                Expect.same(rule + " state of target", sim.state(target, 200), before * 5 + first / 4 + 1);
            }
        }
    }

    private static void laterRuleReplacesEarlier() {
        OptimisticSim sim = new OptimisticSim();
        sim.rule(2, 1, 9, 0);
        Expect.same("second rule", sim.rule(2, 3, 4, 0), 0);
        sim.inject(2, 10, Expect.what(0, 1));
        Expect.same("lastTime()", sim.lastTime(), 14);
        Expect.same("handled(3, 200)", sim.handled(3, 200), 1);
        Expect.same("handled(1, 200)", sim.handled(1, 200), 0);
    }

    private static void wrongInputsAreRefused() {
        OptimisticSim sim = new OptimisticSim();
        for (int bad : Expect.NOT_PROCESSES) {
            Expect.same("rule process " + bad, sim.rule(bad, 0, 1, 0), OptimisticSim.BAD_PROCESS);
            Expect.same("rule target " + bad, sim.rule(0, bad, 1, 0), OptimisticSim.BAD_PROCESS);
        }
        for (int bad : NOT_DELAYS) {
            Expect.same("rule delay " + bad, sim.rule(0, 0, bad, 0), OptimisticSim.BAD_NUMBER);
        }
        for (int bad : NOT_MASKS) {
            Expect.same("rule mask " + bad, sim.rule(0, 0, 1, bad), OptimisticSim.BAD_NUMBER);
        }
    }

    private static void refusalsChangeNothing() {
        OptimisticSim sim = new OptimisticSim();
        sim.rule(0, 1, 3, 0);
        sim.rule(0, 4, 5, 1);
        sim.rule(0, 2, 0, 1);
        sim.rule(0, 2, 10, 1);
        sim.rule(0, 2, 5, -1);
        sim.rule(0, 2, 5, 16);
        sim.inject(0, 10, Expect.what(0, 1));
        Expect.same("rule when locked", sim.rule(0, 2, 5, 1), OptimisticSim.LOCKED);
        // A rule that slipped in would show at the next event that is injected.
        sim.inject(0, 30, Expect.what(0, 1));
        Expect.same("events()", sim.events(), 4);
        Expect.same("handled(1, 13)", sim.handled(1, 13), 1);
        Expect.same("handled(1, 33)", sim.handled(1, 33), 2);
        sim.clear();
        sim.inject(0, 10, Expect.what(0, 1));
        Expect.same("handled(1, 13) behind clear", sim.handled(1, 13), 1);
    }

    private static void lockedByInjectedEventAlone() {
        OptimisticSim sim = new OptimisticSim();
        sim.work(0, 5);
        sim.inject(4, 10, 0);
        sim.inject(0, 100, 0);
        Expect.same("rule behind refused injects", sim.rule(1, 1, 1, 1), 0);
        sim.commit(20);
        sim.inject(0, 20, 0);
        Expect.same("rule behind a commit and a late inject", sim.rule(1, 1, 1, 1), 0);
        sim.inject(0, 21, 0);
        for (int process = 0; process < 4; process++) {
            Expect.same("rule behind an inject", sim.rule(process, 1, 1, 1), OptimisticSim.LOCKED);
        }
        sim.commit(200);
        Expect.same("rule when all is committed", sim.rule(1, 1, 1, 1), OptimisticSim.LOCKED);
        sim.clear();
        Expect.same("rule behind clear", sim.rule(1, 1, 1, 1), 0);
    }
}
