import java.util.function.Consumer;

/** 'Terms': what a state, a rule, an event, handling and the simulation are, up to their bounds. */
public final class TermsTest {
    public static void main(String[] args) {
        Expect.sentence("a state (... 0 at the start)", TermsTest::stateIsZeroAtTheStart);
        Expect.sentence("an int that wraps: beyond the greatest int", TermsTest::wrapsBeyondTheGreatest);
        Expect.sentence("an int that wraps: in the product", TermsTest::wrapsInTheProduct);
        Expect.sentence("an int that wraps: to -1 and to 0 again", TermsTest::wrapsToZeroAgain);
        Expect.sentence("a delay (1 to 9)", TermsTest::leastAndGreatestDelay);
        Expect.sentence("a mask (0 to 15)", TermsTest::leastAndGreatestMask);
        Expect.sentence("a VALUE (0 to 15)", TermsTest::leastAndGreatestValue);
        Expect.sentence("a LIFE (0 to 3)", TermsTest::leastAndGreatestLife);
        Expect.sentence("the state becomes state * 5 + value + 1", TermsTest::stateStep);
        Expect.sentence("if the life is above 0", TermsTest::lifeAboveZero);
        Expect.sentence("and (state & mask) is 0 with the new state", TermsTest::maskWithTheNewState);
        Expect.sentence("its time is the event's time plus the rule's delay", TermsTest::timeOfTheSentEvent);
        Expect.sentence("its process the rule's target", TermsTest::processOfTheSentEvent);
        Expect.sentence("its value (state >> 2) & 15 with the new state", TermsTest::valueOfTheSentEvent);
        Expect.sentence("its value (state >> 2) & 15: of a state below 0", TermsTest::valueFromAStateBelowZero);
        Expect.sentence("its life one less", TermsTest::lifeOfTheSentEvent);
        Expect.sentence("in the order of time", TermsTest::orderOfTime);
        Expect.sentence("of equal times the smaller value first", TermsTest::orderOfValue);
        Expect.sentence("of equal values the smaller life first", TermsTest::orderOfLife);
        Expect.sentence("(events equal in all this are alike)", TermsTest::alikeEvents);
        Expect.sentence("each process handling its events", TermsTest::processesAreApart);
        Expect.sentence("all these and the events sent are handled", TermsTest::sentEventsStandInTheOrder);
        Expect.sentence("HOW FAR the simulation has really been worked out ... CAN'T BE SEEN", TermsTest::orderOfInjectingIsUnseen);
        Expect.sentence("what had to be undone, CAN'T BE SEEN", TermsTest::undoingIsUnseen);
        Expect.sentence("The calls below change nothing that any call answers.", TermsTest::askingChangesNothing);
        Expect.sentence("They tell of the simulation of all events injected so far.", TermsTest::eachInjectedEventIsTold);
        Expect.sentence("A TIME THAT CAN BE ASKED FOR is one from the horizon", TermsTest::askedFromTheHorizon);
        Expect.sentence("to 200", TermsTest::askedToTwoHundred);
        Expect.sentence("(so -1 too while the horizon is -1)", TermsTest::minusOneCanBeAskedFor);
        Expect.end("TermsTest");
    }

    private static void stateIsZeroAtTheStart() {
        OptimisticSim sim = new OptimisticSim();
        for (int process = 0; process < 4; process++) {
            Expect.same("state(" + process + ", 200)", sim.state(process, 200), 0);
            sim.inject(process, 10, 0);
            Expect.same("state(" + process + ", 9)", sim.state(process, 9), 0);
            Expect.same("state(" + process + ", 10)", sim.state(process, 10), 1);
        }
    }

    /** Leads a process to a state, one event at each time from 0; answers the next time. */
    private static int lead(OptimisticSim sim, int process, long state) {
        // Every number above 0 has one writing to the base 5 with the digits 1 to 5.
        int[] digits = new int[24];
        int length = 0;
        for (long rest = state; rest > 0; length++) {
            digits[length] = (int) ((rest - 1) % 5) + 1;
            rest = (rest - digits[length]) / 5;
        }
        for (int i = 0; i < length; i++) {
            sim.inject(process, i, Expect.what(digits[length - 1 - i] - 1, 0));
        }
        return length;
    }

    private static void wrapsBeyondTheGreatest() {
        // 429496729 * 5 is 2147483645: value and 1 alone lead beyond 2147483647.
        int[] dues = {2147483646, Integer.MAX_VALUE, Integer.MIN_VALUE, Integer.MIN_VALUE + 1};
        for (int value = 0; value < dues.length; value++) {
            OptimisticSim sim = new OptimisticSim();
            int time = lead(sim, 1, 429496729);
            Expect.same("the state led to", sim.state(1, 200), 429496729);
            sim.inject(1, time, Expect.what(value, 0));
            Expect.same("the state behind value " + value, sim.state(1, 200), dues[value]);
        }
    }

    private static void wrapsInTheProduct() {
        OptimisticSim sim = new OptimisticSim();
        int time = lead(sim, 2, 429496730);
        sim.inject(2, time, Expect.what(0, 0));
        Expect.same("429496730 * 5 + 1", sim.state(2, 200), -2147483645);
        sim.inject(2, time + 1, Expect.what(15, 0));
        // The product is below the least int this time: 2 times 2 to the 32 are added.
        Expect.same("-2147483645 * 5 + 16", sim.state(2, 200), -2147483617);

        sim = new OptimisticSim();
        int due = 0;
        for (int i = 0; i < 24; i++) {
            sim.inject(3, i, Expect.what(15, 0));
            due = due * 5 + 16;
            Expect.same("state(3, " + i + ")", sim.state(3, i), due);
        }
    }

    private static void wrapsToZeroAgain() {
        OptimisticSim sim = new OptimisticSim();
        lead(sim, 0, 4294967295L);
        Expect.same("the state at 2 to the 32, less 1", sim.state(0, 200), -1);
        sim = new OptimisticSim();
        int time = lead(sim, 0, 4294967296L);
        Expect.same("the state at 2 to the 32", sim.state(0, 200), 0);
        Expect.same("handled", sim.handled(0, 200), time);
        sim.inject(0, time, Expect.what(4, 0));
        Expect.same("the state behind that", sim.state(0, 200), 5);
    }

    private static void leastAndGreatestDelay() {
        for (int delay : new int[] {1, 9}) {
            OptimisticSim sim = new OptimisticSim();
            Expect.same("rule of delay " + delay, sim.rule(0, 1, delay, 0), 0);
            sim.inject(0, 99, Expect.what(0, 1));
            Expect.same("handled before", sim.handled(1, 98 + delay), 0);
            Expect.same("handled then", sim.handled(1, 99 + delay), 1);
        }
    }

    private static void leastAndGreatestMask() {
        for (int value = 0; value < 16; value++) {
            OptimisticSim sim = new OptimisticSim();
            Expect.same("rule of mask 0", sim.rule(0, 1, 1, 0), 0);
            Expect.same("rule of mask 15", sim.rule(2, 3, 1, 15), 0);
            sim.inject(0, 10, Expect.what(value, 1));
            sim.inject(2, 10, Expect.what(value, 1));
            Expect.same("mask 0 sends at value " + value, sim.handled(1, 200), 1);
            Expect.same("mask 15 sends at value " + value, sim.handled(3, 200), value == 15 ? 1 : 0);
        }
    }

    private static void leastAndGreatestValue() {
        OptimisticSim sim = new OptimisticSim();
        sim.inject(0, 10, Expect.what(0, 0));
        sim.inject(1, 10, Expect.what(15, 0));
        Expect.same("state behind value 0", sim.state(0, 10), 1);
        Expect.same("state behind value 15", sim.state(1, 10), 16);
    }

    private static void leastAndGreatestLife() {
        OptimisticSim sim = new OptimisticSim();
        sim.rule(0, 0, 1, 0);
        sim.rule(1, 1, 1, 0);
        sim.inject(0, 10, Expect.what(0, 0));
        sim.inject(1, 10, Expect.what(0, 3));
        Expect.same("handled of life 0", sim.handled(0, 200), 1);
        Expect.same("handled of life 3", sim.handled(1, 200), 4);
    }

    private static void stateStep() {
        for (int first = 0; first < 16; first++) {
            for (int second = 0; second < 16; second++) {
                OptimisticSim sim = new OptimisticSim();
                sim.inject(2, 10, Expect.what(first, 0));
                sim.inject(2, 20, Expect.what(second, 0));
                Expect.same("state behind " + first, sim.state(2, 10), first + 1);
                Expect.same("state behind " + second, sim.state(2, 20), (first + 1) * 5 + second + 1);
            }
        }
    }

    private static void lifeAboveZero() {
        for (int life = 0; life <= 3; life++) {
            OptimisticSim sim = new OptimisticSim();
            sim.rule(0, 1, 1, 0);
            sim.inject(0, 10, Expect.what(3, life));
            Expect.same("handled at 11 of life " + life, sim.handled(1, 11), life == 0 ? 0 : 1);
        }
    }

    private static void maskWithTheNewState() {
        for (int mask = 0; mask < 16; mask++) {
            for (int first = 0; first < 16; first++) {
                OptimisticSim sim = new OptimisticSim();
                sim.rule(0, 1, 1, mask);
                sim.inject(0, 10, Expect.what(first, 0));
                sim.inject(0, 20, Expect.what(2, 1));
                int state = (first + 1) * 5 + 3;
                Expect.same("mask " + mask + ", state " + state, sim.handled(1, 21), (state & mask) == 0 ? 1 : 0);
            }
        }
        // 0 & mask would let everything through at the first event.
        OptimisticSim sim = new OptimisticSim();
        sim.rule(0, 1, 1, 15);
        sim.inject(0, 10, Expect.what(0, 1));
        Expect.same("sent by the state 1", sim.events(), 1);
        stateBelowZeroUnderTheMask();
    }

    private static void stateBelowZeroUnderTheMask() {
        // 429496729 * 5 + 3 is the least int, which ends in many 0 bits.
        OptimisticSim sim = new OptimisticSim();
        sim.rule(0, 1, 1, 15);
        int time = lead(sim, 0, 429496729);
        sim.inject(0, time, Expect.what(2, 1));
        Expect.same("sent by the least int", sim.handled(1, 200), 1);
        sim.clear();
        time = lead(sim, 0, 429496729);
        sim.inject(0, time, Expect.what(3, 1));
        Expect.same("sent by the least int and 1", sim.handled(1, 200), 0);
    }

    private static void timeOfTheSentEvent() {
        for (int delay = 1; delay <= 9; delay++) {
            for (int time : new int[] {0, 1, 50, 99}) {
                OptimisticSim sim = new OptimisticSim();
                sim.rule(3, 2, delay, 0);
                sim.inject(3, time, Expect.what(0, 1));
                Expect.same("lastTime of " + time + " and " + delay, sim.lastTime(), time + delay);
                Expect.same("handled before", sim.handled(2, time + delay - 1), 0);
                Expect.same("handled then", sim.handled(2, time + delay), 1);
            }
        }
    }

    private static void processOfTheSentEvent() {
        for (int process = 0; process < 4; process++) {
            for (int target = 0; target < 4; target++) {
                OptimisticSim sim = new OptimisticSim();
                sim.rule(process, target, 1, 0);
                sim.inject(process, 10, Expect.what(0, 1));
                for (int seen = 0; seen < 4; seen++) {
                    int due = (seen == process ? 1 : 0) + (seen == target ? 1 : 0);
                    Expect.same(process + " sends to " + target + ": handled by " + seen, sim.handled(seen, 200), due);
                }
            }
        }
    }

    private static void valueOfTheSentEvent() {
        // States 5, 10, ... up to 5 * 16 + 16 = 96: beyond 63 the bits above the value's are cut off.
        for (int first = 0; first < 16; first++) {
            for (int second = 0; second < 16; second++) {
                OptimisticSim sim = new OptimisticSim();
                sim.rule(0, 1, 1, 0);
                sim.inject(0, 10, Expect.what(first, 0));
                sim.inject(0, 20, Expect.what(second, 1));
                int state = (first + 1) * 5 + second + 1;
                Expect.same("state(1, 21) from " + state, sim.state(1, 21), state / 4 % 16 + 1);
            }
        }
    }

    private static void valueFromAStateBelowZero() {
        long[] states = {4294967295L, 4294967292L, 4294967291L, 4294967235L, 2147483648L, 2147483652L};
        int[] values = {15, 15, 14, 0, 0, 1};
        for (int i = 0; i < states.length; i++) {
            OptimisticSim sim = new OptimisticSim();
            sim.rule(0, 1, 1, 0);
            int last = (int) ((states[i] - 1) % 5) + 1;
            int time = lead(sim, 0, (states[i] - last) / 5);
            sim.inject(0, time, Expect.what(last - 1, 1));
            Expect.same("the state", sim.state(0, 200), (int) states[i]);
            Expect.same("the value from " + (int) states[i], sim.state(1, 200) - 1, values[i]);
        }
    }

    private static void lifeOfTheSentEvent() {
        for (int life = 0; life <= 3; life++) {
            OptimisticSim sim = new OptimisticSim();
            for (int process = 0; process < 4; process++) {
                sim.rule(process, (process + 1) % 4, 1, 0);
            }
            sim.inject(0, 10, Expect.what(0, life));
            for (int process = 0; process < 4; process++) {
                Expect.same("life " + life + ": handled by " + process, sim.handled(process, 200), process <= life ? 1 : 0);
            }
        }
        sentLifeStandsInTheOrder();
    }

    private static void sentLifeStandsInTheOrder() {
        // Process 0 sends value 0 and life 1 to process 1 at 20, where value 0 with life 0 and with life 2 are.
        OptimisticSim sim = new OptimisticSim();
        sim.rule(0, 1, 9, 0);
        sim.rule(1, 2, 3, 15);
        sim.inject(0, 11, Expect.what(0, 2));
        sim.inject(1, 20, Expect.what(0, 2));
        sim.inject(1, 20, Expect.what(0, 0));
        // States 1, 6, 31: none sends under the mask 15.
        Expect.same("events() under mask 15", sim.events(), 4);
        sim.clear();
        sim.rule(1, 2, 3, 1);
        sim.rule(2, 3, 1, 0);
        sim.inject(0, 11, Expect.what(0, 2));
        sim.inject(1, 20, Expect.what(0, 2));
        sim.inject(1, 20, Expect.what(0, 0));
        // Only the second state, 6, sends: the event of life 1, whose own sent event has life 0.
        Expect.same("state(2, 23)", sim.state(2, 23), 2);
        Expect.same("events() under mask 1", sim.events(), 5);
    }

    private static void orderOfTime() {
        OptimisticSim sim = new OptimisticSim();
        sim.inject(2, 30, Expect.what(0, 0));
        sim.inject(2, 29, Expect.what(15, 3));
        sim.inject(2, 31, Expect.what(7, 0));
        Expect.same("state(2, 28)", sim.state(2, 28), 0);
        Expect.same("state(2, 29)", sim.state(2, 29), 16);
        Expect.same("state(2, 30)", sim.state(2, 30), 81);
        Expect.same("state(2, 31)", sim.state(2, 31), 413);
    }

    private static void orderOfValue() {
        OptimisticSim sim = new OptimisticSim();
        sim.inject(1, 10, Expect.what(9, 0));
        sim.inject(1, 10, Expect.what(2, 0));
        sim.inject(1, 10, Expect.what(5, 0));
        Expect.same("values 2, 5, 9", sim.state(1, 10), (3 * 5 + 6) * 5 + 10);

        sim = new OptimisticSim();
        sim.inject(1, 10, Expect.what(15, 0));
        sim.inject(1, 10, Expect.what(0, 3));
        Expect.same("value 0 of life 3 before value 15 of life 0", sim.state(1, 10), 21);
    }

    private static void orderOfLife() {
        // States 1, then 6: under mask 1 only the second sends, and that must be the longer life.
        for (int shorter = 0; shorter < 3; shorter++) {
            for (int longer = shorter + 1; longer <= 3; longer++) {
                for (int turn = 0; turn < 2; turn++) {
                    OptimisticSim sim = new OptimisticSim();
                    sim.rule(1, 2, 3, 1);
                    sim.rule(2, 2, 3, 0);
                    sim.inject(1, 10, Expect.what(0, turn == 0 ? longer : shorter));
                    sim.inject(1, 10, Expect.what(0, turn == 0 ? shorter : longer));
                    Expect.same("state(1, 10)", sim.state(1, 10), 6);
                    Expect.same("lives " + shorter + ", " + longer + ": events()", sim.events(), 2 + longer);
                }
            }
        }
    }

    private static void alikeEvents() {
        OptimisticSim sim = new OptimisticSim();
        sim.rule(1, 2, 3, 0);
        for (int i = 0; i < 3; i++) {
            sim.inject(1, 10, Expect.what(4, 1));
        }
        Expect.same("state(1, 10)", sim.state(1, 10), (5 * 5 + 5) * 5 + 5);
        Expect.same("handled(1, 10)", sim.handled(1, 10), 3);
        // States 5, 30 and 155 send the values 1, 7 and 6: handled as 1, 6, 7.
        Expect.same("handled(2, 13)", sim.handled(2, 13), 3);
        Expect.same("state(2, 13)", sim.state(2, 13), (2 * 5 + 7) * 5 + 8);
    }

    private static void processesAreApart() {
        OptimisticSim sim = new OptimisticSim();
        for (int process = 0; process < 4; process++) {
            sim.inject(process, 10, Expect.what(3 * process, 0));
            sim.inject(3 - process, 10, Expect.what(3 * process + 1, 0));
        }
        for (int process = 0; process < 4; process++) {
            int own = 3 * process + 1;
            int other = 3 * (3 - process) + 2;
            int due = Math.min(own, other) * 5 + Math.max(own, other);
            Expect.same("state(" + process + ", 10)", sim.state(process, 10), due);
            Expect.same("handled(" + process + ", 10)", sim.handled(process, 10), 2);
        }
    }

    private static void sentEventsStandInTheOrder() {
        OptimisticSim sim = new OptimisticSim();
        sim.rule(0, 1, 5, 0);
        // State 9 sends value 2 to process 1 at time 15, between the values 1 and 3 there.
        sim.inject(0, 10, Expect.what(8, 1));
        sim.inject(1, 15, Expect.what(3, 0));
        sim.inject(1, 15, Expect.what(1, 0));
        sim.inject(1, 16, Expect.what(0, 0));
        sim.inject(1, 14, Expect.what(9, 0));
        Expect.same("state(1, 14)", sim.state(1, 14), 10);
        Expect.same("state(1, 15)", sim.state(1, 15), ((10 * 5 + 2) * 5 + 3) * 5 + 4);
        Expect.same("state(1, 16)", sim.state(1, 16), (((10 * 5 + 2) * 5 + 3) * 5 + 4) * 5 + 1);

        // To itself, 1 later: between two events of its own.
        sim = new OptimisticSim();
        sim.rule(3, 3, 1, 0);
        sim.inject(3, 12, Expect.what(0, 0));
        sim.inject(3, 10, Expect.what(11, 1));
        Expect.same("state(3, 10)", sim.state(3, 10), 12);
        Expect.same("state(3, 11)", sim.state(3, 11), 64);
        Expect.same("state(3, 12)", sim.state(3, 12), 321);
    }

    private static final int[][] SIX = {
        {0, 10, 0x35}, {1, 12, 0x30}, {0, 12, 0x1F}, {1, 12, 0x20}, {2, 14, 0x33}, {0, 0, 0x30}
    };

    private static void orderOfInjectingIsUnseen() {
        String due = Sight.of(sim -> injectInTurn(sim, 0));
        for (int turn = 1; turn < 720; turn += 7) {
            int number = turn;
            Expect.same("all calls behind turn " + turn, Sight.of(sim -> injectInTurn(sim, number)), due);
        }
    }

    /** Injects the six events in one of the 720 orders. */
    private static void injectInTurn(OptimisticSim sim, int turn) {
        sim.rule(0, 1, 2, 1);
        sim.rule(1, 2, 2, 0);
        sim.rule(2, 0, 3, 2);
        boolean[] taken = new boolean[6];
        int rest = turn;
        for (int left = 6; left > 0; left--) {
            int skip = rest % left;
            rest /= left;
            int i = 0;
            while (taken[i] || skip-- > 0) {
                i++;
            }
            taken[i] = true;
            sim.inject(SIX[i][0], SIX[i][1], SIX[i][2]);
        }
    }

    private static void undoingIsUnseen() {
        Consumer<OptimisticSim> idle = sim -> injectWithWork(sim, 0);
        Consumer<OptimisticSim> busy = sim -> injectWithWork(sim, 1);
        Consumer<OptimisticSim> eager = sim -> injectWithWork(sim, Integer.MAX_VALUE);
        Expect.same("all calls beside a little work", Sight.of(busy), Sight.of(idle));
        Expect.same("all calls beside much work", Sight.of(eager), Sight.of(idle));
    }

    /** Each event comes before all that were injected already. */
    private static void injectWithWork(OptimisticSim sim, int n) {
        for (int process = 0; process < 4; process++) {
            sim.rule(process, (process + 1) % 4, process + 1, process % 2);
        }
        for (int i = 0; i < 20; i++) {
            sim.inject(i % 3, 60 - 2 * i, Expect.what(i * 3 % 16, 3));
            for (int process = 0; process < 4 && n > 0; process++) {
                sim.work(process, n);
            }
        }
    }

    private static void askingChangesNothing() {
        Expect.unchanged("asking a new object", Past::none, TermsTest::ask);
        Expect.unchanged("asking one with rules", Past::rules, TermsTest::ask);
        Expect.unchanged("asking one with events", Past::events, TermsTest::ask);
        Expect.unchanged("asking one with a horizon", Past::committed, TermsTest::ask);
        Expect.unchanged("asking a full one", Past::full, TermsTest::ask);
        Expect.unchanged("asking a cleared one", Past::cleared, TermsTest::ask);
    }

    private static void ask(OptimisticSim sim) {
        for (int process = -1; process <= 4; process++) {
            for (int time : new int[] {-2, -1, 0, 34, 35, 36, 99, 200, 201}) {
                sim.state(process, time);
                sim.handled(process, time);
            }
        }
        sim.lastTime();
        sim.events();
        sim.horizon();
    }

    private static void eachInjectedEventIsTold() {
        OptimisticSim sim = new OptimisticSim();
        sim.rule(0, 0, 9, 0);
        for (int i = 1; i <= 24; i++) {
            sim.inject(0, 50 - i, Expect.what(0, 1));
            Expect.same("events() behind " + i, sim.events(), 2 * i);
            Expect.same("handled(0, 200) behind " + i, sim.handled(0, 200), 2 * i);
            Expect.same("state(0, " + (50 - i) + ")", sim.state(0, 50 - i), 1);
            Expect.same("lastTime() behind " + i, sim.lastTime(), 58);
        }
    }

    private static void askedFromTheHorizon() {
        for (int horizon : new int[] {0, 1, 20, 99, 100, 199, 200}) {
            OptimisticSim sim = new OptimisticSim();
            sim.inject(1, 0, Expect.what(3, 0));
            sim.commit(horizon);
            String text = ", horizon " + horizon;
            Expect.same("state below" + text, sim.state(1, horizon - 1), 0);
            Expect.same("handled below" + text, sim.handled(1, horizon - 1), OptimisticSim.LATE);
            Expect.same("state at it" + text, sim.state(1, horizon), 4);
            Expect.same("handled at it" + text, sim.handled(1, horizon), 1);
            if (horizon < 200) {
                Expect.same("state above" + text, sim.state(1, horizon + 1), 4);
                Expect.same("handled above" + text, sim.handled(1, horizon + 1), 1);
            }
        }
    }

    private static void askedToTwoHundred() {
        for (int horizon : new int[] {-1, 0, 20, 200}) {
            OptimisticSim sim = new OptimisticSim();
            sim.inject(1, 0, Expect.what(3, 0));
            if (horizon >= 0) {
                sim.commit(horizon);
            }
            String text = ", horizon " + horizon;
            Expect.same("state(1, 200)" + text, sim.state(1, 200), 4);
            Expect.same("handled(1, 200)" + text, sim.handled(1, 200), 1);
            for (int above : new int[] {201, 202, Integer.MAX_VALUE}) {
                Expect.same("state(1, " + above + ")" + text, sim.state(1, above), 0);
                Expect.same("handled(1, " + above + ")" + text, sim.handled(1, above), OptimisticSim.LATE);
            }
        }
    }

    private static void minusOneCanBeAskedFor() {
        OptimisticSim sim = new OptimisticSim();
        sim.inject(1, 0, Expect.what(3, 0));
        Expect.same("handled(1, -1), horizon -1", sim.handled(1, -1), 0);
        Expect.same("state(1, -1), horizon -1", sim.state(1, -1), 0);
        Expect.same("handled(1, -2), horizon -1", sim.handled(1, -2), OptimisticSim.LATE);
        Expect.same("handled(1, the least), horizon -1", sim.handled(1, Integer.MIN_VALUE), OptimisticSim.LATE);
        sim.commit(0);
        Expect.same("handled(1, -1), horizon 0", sim.handled(1, -1), OptimisticSim.LATE);
        sim.clear();
        Expect.same("handled(1, -1) behind clear", sim.handled(1, -1), 0);
    }
}
