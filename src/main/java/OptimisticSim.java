/** A simulation of four processes that send each other events. */
public final class OptimisticSim {
    public static final int BAD_PROCESS = -1;
    public static final int BAD_NUMBER = -2;
    public static final int FULL = -3;
    public static final int LATE = -4;
    public static final int LOCKED = -5;

    private static final int PROCESSES = 4;
    private static final int MAX_DELAY = 9;
    private static final int MAX_MASK = 15;
    private static final int MAX_INJECT_TIME = 99;
    private static final int MAX_ASKED_TIME = 200;
    private static final int MAX_INJECTED = 24;
    // An injected event has a life of at most 3, so at most 3 more come of it.
    private static final int MAX_EVENTS = 96;
    private static final int NO_TIME = -1;

    private final int[] ruleTarget = new int[PROCESSES];
    private final int[] ruleDelay = new int[PROCESSES];
    private final int[] ruleMask = new int[PROCESSES];

    private final int[] injectedProcess = new int[MAX_INJECTED];
    private final int[] injectedRank = new int[MAX_INJECTED];
    private int injectedCount;

    // The whole simulation of the injected events, in the order of handling.
    private final int[] eventProcess = new int[MAX_EVENTS];
    private final int[] eventRank = new int[MAX_EVENTS];
    private final int[] stateAfterEvent = new int[MAX_EVENTS];
    private int eventCount;

    // Used only while the simulation is worked out.
    private final int[] currentState = new int[PROCESSES];

    private int horizonTime;

    public OptimisticSim() {
        for (int process = 0; process < PROCESSES; process++) {
            ruleTarget[process] = 0;
            ruleDelay[process] = 1;
            ruleMask[process] = MAX_MASK;
        }
        forgetEvents();
    }

    public int rule(int process, int target, int delay, int mask) {
        if (!isProcess(process) || !isProcess(target)) {
            return BAD_PROCESS;
        }
        if (delay < 1 || delay > MAX_DELAY || mask < 0 || mask > MAX_MASK) {
            return BAD_NUMBER;
        }
        if (injectedCount > 0) {
            return LOCKED;
        }
        ruleTarget[process] = target;
        ruleDelay[process] = delay;
        ruleMask[process] = mask;
        return 0;
    }

    public int inject(int process, int time, int what) {
        if (!isProcess(process)) {
            return BAD_PROCESS;
        }
        if (time < 0 || time > MAX_INJECT_TIME) {
            return BAD_NUMBER;
        }
        if (time <= horizonTime) {
            return LATE;
        }
        if (injectedCount >= MAX_INJECTED) {
            return FULL;
        }
        injectedProcess[injectedCount] = process;
        injectedRank[injectedCount] = rankOf(time, what & 15, (what >> 4) & 3);
        injectedCount++;
        simulate();
        return injectedCount;
    }

    // Every inject works out the whole simulation at once, so nothing is left
    // to be handled ahead, and n has no use.
    public int work(int process, int n) {
        return isProcess(process) ? 0 : BAD_PROCESS;
    }

    public int commit(int time) {
        if (time < 0 || time > MAX_ASKED_TIME) {
            return BAD_NUMBER;
        }
        if (time < horizonTime) {
            return LATE;
        }
        horizonTime = time;
        return countEventsUpTo(time);
    }

    public void clear() {
        forgetEvents();
    }

    public int state(int process, int time) {
        if (!isProcess(process) || !canBeAskedFor(time)) {
            return 0;
        }
        int answer = 0;
        for (int i = 0; i < eventCount; i++) {
            if (eventProcess[i] == process && timeOf(eventRank[i]) <= time) {
                answer = stateAfterEvent[i];
            }
        }
        return answer;
    }

    public int handled(int process, int time) {
        if (!isProcess(process)) {
            return BAD_PROCESS;
        }
        if (!canBeAskedFor(time)) {
            return LATE;
        }
        int answer = 0;
        for (int i = 0; i < eventCount; i++) {
            if (eventProcess[i] == process && timeOf(eventRank[i]) <= time) {
                answer++;
            }
        }
        return answer;
    }

    public int lastTime() {
        return eventCount > 0 ? timeOf(eventRank[eventCount - 1]) : NO_TIME;
    }

    public int events() {
        return eventCount;
    }

    public int horizon() {
        return horizonTime;
    }

    private static boolean isProcess(int process) {
        return process >= 0 && process < PROCESSES;
    }

    private boolean canBeAskedFor(int time) {
        return time >= horizonTime && time <= MAX_ASKED_TIME;
    }

    private void forgetEvents() {
        injectedCount = 0;
        eventCount = 0;
        horizonTime = NO_TIME;
    }

    private int countEventsUpTo(int time) {
        int count = 0;
        for (int i = 0; i < eventCount; i++) {
            if (timeOf(eventRank[i]) <= time) {
                count++;
            }
        }
        return count;
    }

    // Time, value and life stand in one number, the weightiest first, so that
    // the order of handling is the order of the numbers.
    private static int rankOf(int time, int value, int life) {
        return (time << 6) | (value << 2) | life;
    }

    private static int timeOf(int rank) {
        return rank >> 6;
    }

    private static int valueOf(int rank) {
        return (rank >> 2) & 15;
    }

    private static int lifeOf(int rank) {
        return rank & 3;
    }

    // A new event may come before events that were handled already and change
    // what they send, so all is worked out anew from the injected events.
    private void simulate() {
        startSimulation();
        for (int i = 0; i < eventCount && i < MAX_EVENTS; i++) {
            bringEarliestTo(i);
            handle(i);
        }
    }

    private void startSimulation() {
        for (int process = 0; process < PROCESSES; process++) {
            currentState[process] = 0;
        }
        for (int i = 0; i < injectedCount; i++) {
            eventProcess[i] = injectedProcess[i];
            eventRank[i] = injectedRank[i];
        }
        eventCount = injectedCount;
    }

    private void bringEarliestTo(int place) {
        int earliest = place;
        for (int i = place + 1; i < eventCount; i++) {
            if (eventRank[i] < eventRank[earliest]) {
                earliest = i;
            }
        }
        int process = eventProcess[earliest];
        int rank = eventRank[earliest];
        eventProcess[earliest] = eventProcess[place];
        eventRank[earliest] = eventRank[place];
        eventProcess[place] = process;
        eventRank[place] = rank;
    }

    private void handle(int place) {
        int process = eventProcess[place];
        int rank = eventRank[place];
        int newState = currentState[process] * 5 + valueOf(rank) + 1;
        currentState[process] = newState;
        stateAfterEvent[place] = newState;
        if (lifeOf(rank) > 0 && (newState & ruleMask[process]) == 0) {
            send(process, rank, newState);
        }
    }

    private void send(int sender, int rank, int senderState) {
        if (eventCount >= MAX_EVENTS) {
            return;
        }
        int time = timeOf(rank) + ruleDelay[sender];
        int value = (senderState >> 2) & 15;
        int life = lifeOf(rank) - 1;
        eventProcess[eventCount] = ruleTarget[sender];
        eventRank[eventCount] = rankOf(time, value, life);
        eventCount++;
    }
}
