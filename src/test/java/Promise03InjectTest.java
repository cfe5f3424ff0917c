import java.util.function.Consumer;

/** Promise 3: inject takes up to 24 events, with value and life from 'what'. */
public final class Promise03InjectTest {
    private static final int[] NOT_TIMES = {-1, 100, 200, Integer.MIN_VALUE, Integer.MAX_VALUE};

    public static void main(String[] args) {
        Expect.sentence("Injects an event.", Promise03InjectTest::injects);
        Expect.sentence("Injects an event: earlier than others", Promise03InjectTest::earlierEventRedoesLaterOnes);
        Expect.sentence("process not in 0 to 3: BAD_PROCESS", Promise03InjectTest::badProcess);
        Expect.sentence("time not in 0 to 99: BAD_NUMBER", Promise03InjectTest::badTime);
        Expect.sentence("time is not above the horizon: LATE", Promise03InjectTest::late);
        Expect.sentence("time is not above the horizon: a horizon of 99 and more", Promise03InjectTest::lateForEver);
        Expect.sentence("24 events have been injected since the start ...: FULL", Promise03InjectTest::fullSinceTheStart);
        Expect.sentence("... or the last clear: FULL", Promise03InjectTest::fullSinceTheLastClear);
        Expect.sentence("24 events have been injected: sent ones and refused ones don't count", Promise03InjectTest::injectedOnesAlone);
        Expect.sentence("nothing changes then", Promise03InjectTest::nothingChanges);
        Expect.sentence("Else answers how many have been injected.", Promise03InjectTest::answersHowMany);
        Expect.sentence("value = what & 15", Promise03InjectTest::valueOfWhat);
        Expect.sentence("life = (what >> 4) & 3", Promise03InjectTest::lifeOfWhat);
        Expect.sentence("its other bits are not looked at", Promise03InjectTest::otherBits);
        Expect.end("Promise03InjectTest");
    }

    private static void injects() {
        for (int process = 0; process < 4; process++) {
            OptimisticSim sim = new OptimisticSim();
            sim.inject(process, 40, Expect.what(6, 0));
            for (int other = 0; other < 4; other++) {
                Expect.same("state(" + other + ", 39)", sim.state(other, 39), 0);
                Expect.same("state(" + other + ", 40)", sim.state(other, 40), other == process ? 7 : 0);
            }
            Expect.same("events()", sim.events(), 1);
            Expect.same("lastTime()", sim.lastTime(), 40);
        }
    }

    private static void earlierEventRedoesLaterOnes() {
        OptimisticSim sim = new OptimisticSim();
        sim.rule(0, 1, 2, 1);
        sim.inject(0, 10, Expect.what(3, 1));
        // State 4 is even: value 1 was sent to process 1 at time 12.
        Expect.same("state(1, 12)", sim.state(1, 12), 2);
        sim.inject(0, 5, Expect.what(0, 1));
        // Now 1, then 1 * 5 + 4 = 9: both odd, and nothing is sent any more.
        Expect.same("state(0, 10)", sim.state(0, 10), 9);
        Expect.same("handled(1, 12)", sim.handled(1, 12), 0);
        Expect.same("events()", sim.events(), 2);
        sim.inject(0, 7, Expect.what(2, 0));
        // 1, then 8, then 44: 44 is even again, and sends value 11.
        Expect.same("state(0, 10) again", sim.state(0, 10), 44);
        Expect.same("state(1, 12) again", sim.state(1, 12), 12);
        Expect.same("events() again", sim.events(), 4);
    }

    private static void badProcess() {
        for (int process : Expect.NOT_PROCESSES) {
            OptimisticSim sim = new OptimisticSim();
            Expect.same("inject at process " + process, sim.inject(process, 5, 0), OptimisticSim.BAD_PROCESS);
        }
        for (int process : Expect.PROCESS_EDGES) {
            OptimisticSim sim = new OptimisticSim();
            Expect.same("inject at process " + process, sim.inject(process, 5, 0), 1);
        }
    }

    private static void badTime() {
        for (int time : NOT_TIMES) {
            OptimisticSim sim = new OptimisticSim();
            Expect.same("inject at time " + time, sim.inject(0, time, 0), OptimisticSim.BAD_NUMBER);
        }
        for (int time : new int[] {0, 99}) {
            OptimisticSim sim = new OptimisticSim();
            Expect.same("inject at time " + time, sim.inject(0, time, 0), 1);
            Expect.same("lastTime()", sim.lastTime(), time);
            Expect.same("handled(0, " + time + ")", sim.handled(0, time), 1);
            Expect.same("handled before", sim.handled(0, time - 1), 0);
        }
    }

    private static void late() {
        for (int horizon : new int[] {0, 1, 40, 97, 98}) {
            OptimisticSim sim = new OptimisticSim();
            sim.commit(horizon);
            String text = ", horizon " + horizon;
            Expect.same("inject at 0" + text, sim.inject(0, 0, 0), OptimisticSim.LATE);
            Expect.same("inject at it" + text, sim.inject(0, horizon, 0), OptimisticSim.LATE);
            Expect.same("inject above it" + text, sim.inject(0, horizon + 1, 0), 1);
            Expect.same("inject at 99" + text, sim.inject(0, 99, 0), 2);
        }
        // A horizon of -1 makes no time late.
        Expect.same("inject at 0, horizon -1", new OptimisticSim().inject(0, 0, 0), 1);
    }

    private static void lateForEver() {
        for (int horizon : new int[] {99, 100, 101, 199, 200}) {
            OptimisticSim sim = new OptimisticSim();
            sim.commit(horizon);
            for (int time = 0; time <= 99; time++) {
                Expect.same("inject at " + time + ", horizon " + horizon, sim.inject(0, time, 0), OptimisticSim.LATE);
            }
            sim.clear();
            Expect.same("inject at 0 behind clear", sim.inject(0, 0, 0), 1);
        }
    }

    private static void fullSinceTheStart() {
        OptimisticSim sim = new OptimisticSim();
        for (int i = 1; i <= 24; i++) {
            Expect.same("inject number " + i, sim.inject(i % 4, i * 3, i * 7), i);
        }
        Expect.same("inject number 25", sim.inject(0, 50, 0), OptimisticSim.FULL);
        Expect.same("inject number 26", sim.inject(3, 99, 0), OptimisticSim.FULL);
        // What is committed makes no room.
        sim.commit(90);
        Expect.same("inject behind a commit", sim.inject(3, 99, 0), OptimisticSim.FULL);
    }

    private static void fullSinceTheLastClear() {
        OptimisticSim sim = new OptimisticSim();
        sim.inject(0, 1, 0);
        for (int round = 0; round < 3; round++) {
            sim.clear();
            for (int i = 1; i <= 24; i++) {
                Expect.same("inject number " + i, sim.inject(2, 50, i), i);
            }
            Expect.same("inject number 25", sim.inject(2, 50, 0), OptimisticSim.FULL);
        }
    }

    private static void injectedOnesAlone() {
        OptimisticSim sim = new OptimisticSim();
        sim.rule(0, 0, 1, 0);
        for (int i = 1; i <= 24; i++) {
            sim.inject(4, 50, 0);
            sim.inject(0, 100, 0);
            sim.inject(0, -1, 0);
            Expect.same("inject number " + i, sim.inject(0, 50, Expect.what(0, 3)), i);
        }
        Expect.same("events()", sim.events(), 96);
        Expect.same("inject number 25", sim.inject(0, 50, 0), OptimisticSim.FULL);
    }

    private static void nothingChanges() {
        nothingChangesBehind("none", Past::none);
        nothingChangesBehind("events", Past::events);
        nothingChangesBehind("committed", Past::committed);
        nothingChangesBehind("full", Past::full);
        nothingChangesBehind("cleared", Past::cleared);
        for (int time : new int[] {0, 34, 35}) {
            Expect.refused("a late one at " + time, Past::committed, sim -> sim.inject(1, time, 0x3F), OptimisticSim.LATE);
        }
        Expect.refused("a late one, horizon 200", Past::committedToTheEnd, sim -> sim.inject(1, 99, 0x3F), OptimisticSim.LATE);
        for (int time : new int[] {0, 50, 99}) {
            Expect.refused("one too many at " + time, Past::full, sim -> sim.inject(1, time, 0x3F), OptimisticSim.FULL);
        }
    }

    private static void nothingChangesBehind(String name, Consumer<OptimisticSim> past) {
        for (int process : Expect.NOT_PROCESSES) {
            String text = "process " + process + " behind " + name;
            Expect.refused(text, past, sim -> sim.inject(process, 50, 0x3F), OptimisticSim.BAD_PROCESS);
        }
        for (int time : NOT_TIMES) {
            String text = "time " + time + " behind " + name;
            Expect.refused(text, past, sim -> sim.inject(2, time, 0x3F), OptimisticSim.BAD_NUMBER);
        }
    }

    private static void answersHowMany() {
        OptimisticSim sim = new OptimisticSim();
        for (int round = 0; round < 2; round++) {
            for (int i = 1; i <= 20; i++) {
                Expect.same("inject number " + i, sim.inject(i % 4, 20 + i, i * 7), i);
                sim.work(i % 4, 2);
                sim.commit(i);
            }
            sim.clear();
        }
    }

    private static void valueOfWhat() {
        for (int what = 0; what < 64; what++) {
            OptimisticSim sim = new OptimisticSim();
            sim.inject(0, 5, what);
            Expect.same("state behind what " + what, sim.state(0, 5), what % 16 + 1);
        }
    }

    /** A ring of rules under which every life shows in full. */
    private static OptimisticSim ring() {
        OptimisticSim sim = new OptimisticSim();
        for (int process = 0; process < 4; process++) {
            sim.rule(process, (process + 1) % 4, 1, 0);
        }
        return sim;
    }

    private static void lifeOfWhat() {
        for (int what = 0; what < 64; what++) {
            OptimisticSim sim = ring();
            sim.inject(0, 5, what);
            Expect.same("events behind what " + what, sim.events(), 1 + what / 16);
        }
    }

    private static void otherBits() {
        for (int low = 0; low < 64; low++) {
            for (int bit = 6; bit < 32; bit++) {
                bitIsNotLookedAt(low, 1 << bit);
            }
            bitIsNotLookedAt(low, -64);
        }
        OptimisticSim sim = ring();
        Expect.same("inject of the greatest int", sim.inject(0, 5, Integer.MAX_VALUE), 1);
        Expect.same("state", sim.state(0, 5), 16);
        Expect.same("events", sim.events(), 4);
        sim = ring();
        Expect.same("inject of the least int", sim.inject(0, 5, Integer.MIN_VALUE), 1);
        Expect.same("state", sim.state(0, 5), 1);
        Expect.same("events", sim.events(), 1);
    }

    private static void bitIsNotLookedAt(int low, int high) {
        OptimisticSim sim = ring();
        String call = "inject(0, 5, " + (low | high) + ")";
        Expect.same(call, sim.inject(0, 5, low | high), 1);
        Expect.same(call + ": state(0, 5)", sim.state(0, 5), low % 16 + 1);
        Expect.same(call + ": events()", sim.events(), 1 + low / 16);
        Expect.same(call + ": lastTime()", sim.lastTime(), 5 + low / 16);
    }
}
