import java.util.function.Consumer;

/** Promise 2: rule sets a process's rule, or refuses and changes nothing. */
public final class Promise02RuleTest {
    private static final int[] NOT_DELAYS = {0, 10, -1, Integer.MIN_VALUE, Integer.MAX_VALUE};
    private static final int[] NOT_MASKS = {-1, 16, Integer.MIN_VALUE, Integer.MAX_VALUE};

    public static void main(String[] args) {
        Expect.sentence("Sets a process's rule.", Promise02RuleTest::everyRuleIsUsed);
        Expect.sentence("Sets a process's rule: in place of the one before", Promise02RuleTest::laterRuleReplacesEarlier);
        Expect.sentence("Sets a process's rule: of no other process", Promise02RuleTest::otherRulesStay);
        Expect.sentence("process ... not in 0 to 3: BAD_PROCESS", Promise02RuleTest::badProcess);
        Expect.sentence("... or target not in 0 to 3: BAD_PROCESS", Promise02RuleTest::badTarget);
        Expect.sentence("delay not in 1 to 9 ...: BAD_NUMBER", Promise02RuleTest::badDelay);
        Expect.sentence("... or mask not in 0 to 15: BAD_NUMBER", Promise02RuleTest::badMask);
        Expect.sentence("an event has been injected since the start ...: LOCKED", Promise02RuleTest::lockedSinceTheStart);
        Expect.sentence("... or the last clear: LOCKED", Promise02RuleTest::lockedSinceTheLastClear);
        Expect.sentence("LOCKED: by an event injected alone", Promise02RuleTest::notLockedByOtherCalls);
        Expect.sentence("nothing changes then", Promise02RuleTest::nothingChanges);
        Expect.sentence("Else answers 0.", Promise02RuleTest::answersZero);
        Expect.end("Promise02RuleTest");
    }

    private static void everyRuleIsUsed() {
        for (int process = 0; process < 4; process++) {
            for (int target = 0; target < 4; target++) {
                for (int delay = 1; delay <= 9; delay++) {
                    for (int mask = 0; mask <= 15; mask++) {
                        ruleIsUsed(process, target, delay, mask);
                    }
                }
            }
        }
    }

    private static void ruleIsUsed(int process, int target, int delay, int mask) {
        String rule = "rule(" + process + ", " + target + ", " + delay + ", " + mask + ")";
        for (int value = 0; value < 16; value++) {
            OptimisticSim sim = new OptimisticSim();
            sim.rule(process, target, delay, mask);
            sim.inject(process, 20, Expect.what(value, 1));
            int first = value + 1;
            boolean sends = (first & mask) == 0;
            Expect.same(rule + " events() of " + value, sim.events(), sends ? 2 : 1);
            Expect.same(rule + " lastTime() of " + value, sim.lastTime(), sends ? 20 + delay : 20);
            if (sends) {
                int before = process == target ? first : 0;
                Expect.same(rule + " state of target", sim.state(target, 200), before * 5 + first / 4 + 1);
            }
        }
    }

    private static void laterRuleReplacesEarlier() {
        OptimisticSim sim = new OptimisticSim();
        sim.rule(2, 1, 9, 0);
        Expect.same("second rule", sim.rule(2, 3, 4, 0), 0);
        sim.inject(2, 10, Expect.what(0, 1));
        Expect.same("lastTime()", sim.lastTime(), 14);
        Expect.same("handled(3, 200)", sim.handled(3, 200), 1);
        Expect.same("handled(1, 200)", sim.handled(1, 200), 0);
    }

    private static void otherRulesStay() {
        for (int process = 0; process < 4; process++) {
            OptimisticSim sim = new OptimisticSim();
            sim.rule(process, 3, 9, 0);
            for (int other = 0; other < 4; other++) {
                sim.inject(other, 10, Expect.what(0, 1));
            }
            Expect.same("events() under a rule of " + process, sim.events(), 5);
        }
    }

    private static void badProcess() {
        for (int process : Expect.NOT_PROCESSES) {
            OptimisticSim sim = new OptimisticSim();
            Expect.same("rule of process " + process, sim.rule(process, 0, 1, 0), OptimisticSim.BAD_PROCESS);
        }
        for (int process : Expect.PROCESS_EDGES) {
            OptimisticSim sim = new OptimisticSim();
            Expect.same("rule of process " + process, sim.rule(process, 0, 1, 0), 0);
        }
    }

    private static void badTarget() {
        for (int target : Expect.NOT_PROCESSES) {
            OptimisticSim sim = new OptimisticSim();
            Expect.same("rule of target " + target, sim.rule(0, target, 1, 0), OptimisticSim.BAD_PROCESS);
        }
        for (int target : Expect.PROCESS_EDGES) {
            OptimisticSim sim = new OptimisticSim();
            Expect.same("rule of target " + target, sim.rule(0, target, 1, 0), 0);
        }
    }

    private static void badDelay() {
        for (int delay : NOT_DELAYS) {
            OptimisticSim sim = new OptimisticSim();
            Expect.same("rule of delay " + delay, sim.rule(0, 0, delay, 0), OptimisticSim.BAD_NUMBER);
        }
        for (int delay : new int[] {1, 9}) {
            OptimisticSim sim = new OptimisticSim();
            Expect.same("rule of delay " + delay, sim.rule(0, 0, delay, 0), 0);
        }
    }

    private static void badMask() {
        for (int mask : NOT_MASKS) {
            OptimisticSim sim = new OptimisticSim();
            Expect.same("rule of mask " + mask, sim.rule(0, 0, 1, mask), OptimisticSim.BAD_NUMBER);
        }
        for (int mask : new int[] {0, 15}) {
            OptimisticSim sim = new OptimisticSim();
            Expect.same("rule of mask " + mask, sim.rule(0, 0, 1, mask), 0);
        }
    }

    private static void lockedSinceTheStart() {
        for (int injected = 0; injected < 4; injected++) {
            for (int process = 0; process < 4; process++) {
                OptimisticSim sim = new OptimisticSim();
                Expect.same("rule before an inject", sim.rule(process, 1, 1, 1), 0);
                sim.inject(injected, 0, 0);
                Expect.same("rule behind an inject", sim.rule(process, 1, 1, 1), OptimisticSim.LOCKED);
            }
        }
        OptimisticSim sim = new OptimisticSim();
        Past.full(sim);
        Expect.same("rule of a full one", sim.rule(1, 1, 1, 1), OptimisticSim.LOCKED);
        sim.commit(200);
        Expect.same("rule when all is committed", sim.rule(1, 1, 1, 1), OptimisticSim.LOCKED);
    }

    private static void lockedSinceTheLastClear() {
        OptimisticSim sim = new OptimisticSim();
        for (int round = 0; round < 3; round++) {
            Expect.same("rule before an inject", sim.rule(1, 1, 1, 1), 0);
            sim.inject(2, 99, 0);
            Expect.same("rule behind an inject", sim.rule(1, 1, 1, 1), OptimisticSim.LOCKED);
            sim.clear();
            sim.clear();
        }
    }

    private static void notLockedByOtherCalls() {
        OptimisticSim sim = new OptimisticSim();
        sim.rule(2, 2, 2, 2);
        sim.work(0, 5);
        sim.inject(4, 10, 0);
        sim.inject(0, 100, 0);
        Expect.same("rule behind refused injects", sim.rule(1, 1, 1, 1), 0);
        sim.commit(20);
        sim.inject(0, 20, 0);
        Expect.same("rule behind a commit and a late inject", sim.rule(1, 1, 1, 1), 0);
        sim.commit(200);
        Expect.same("rule behind a commit to the end", sim.rule(1, 1, 1, 1), 0);
    }

    private static void nothingChanges() {
        nothingChangesBehind("none", Past::none);
        nothingChangesBehind("rules", Past::rules);
        nothingChangesBehind("events", Past::events);
        nothingChangesBehind("cleared", Past::cleared);
        Expect.refused("a locked rule", Past::events, sim -> sim.rule(0, 2, 5, 3), OptimisticSim.LOCKED);
        Expect.refused("a locked rule of 3", Past::events, sim -> sim.rule(3, 2, 5, 3), OptimisticSim.LOCKED);
        Expect.refused("a locked rule, horizon 35", Past::committed, sim -> sim.rule(1, 2, 5, 3), OptimisticSim.LOCKED);
        Expect.refused("a locked rule, full", Past::full, sim -> sim.rule(2, 3, 5, 3), OptimisticSim.LOCKED);
    }

    private static void nothingChangesBehind(String name, Consumer<OptimisticSim> past) {
        String text = " behind " + name;
        Expect.refused("process -1" + text, past, sim -> sim.rule(-1, 2, 5, 3), OptimisticSim.BAD_PROCESS);
        Expect.refused("process 4" + text, past, sim -> sim.rule(4, 2, 5, 3), OptimisticSim.BAD_PROCESS);
        for (int process = 0; process < 4; process++) {
            int p = process;
            Expect.refused("target -1" + text, past, sim -> sim.rule(p, -1, 5, 3), OptimisticSim.BAD_PROCESS);
            Expect.refused("target 4" + text, past, sim -> sim.rule(p, 4, 5, 3), OptimisticSim.BAD_PROCESS);
            Expect.refused("delay 0" + text, past, sim -> sim.rule(p, p, 0, 3), OptimisticSim.BAD_NUMBER);
            Expect.refused("delay 10" + text, past, sim -> sim.rule(p, p, 10, 3), OptimisticSim.BAD_NUMBER);
            Expect.refused("mask -1" + text, past, sim -> sim.rule(p, p, 5, -1), OptimisticSim.BAD_NUMBER);
            Expect.refused("mask 16" + text, past, sim -> sim.rule(p, p, 5, 16), OptimisticSim.BAD_NUMBER);
        }
    }

    private static void answersZero() {
        OptimisticSim sim = new OptimisticSim();
        for (int process = 0; process < 4; process++) {
            for (int target = 0; target < 4; target++) {
                for (int number = 1; number <= 9; number++) {
                    Expect.same("rule", sim.rule(process, target, number, number + 6), 0);
                }
            }
        }
    }
}
