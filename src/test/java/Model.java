import java.util.ArrayList;
import java.util.Comparator;
import java.util.List;

/**
 * The document once more, written another way to be compared with: it goes
 * through the times one by one and keeps one list of events for each process.
 */
final class Model {
    private static final class Event {
        final int process;
        final int time;
        final int value;
        final int life;

        Event(int process, int time, int value, int life) {
            this.process = process;
            this.time = time;
            this.value = value;
            this.life = life;
        }
    }

    private final int[][] rules = {{0, 1, 15}, {0, 1, 15}, {0, 1, 15}, {0, 1, 15}};
    private final List<Event> injected = new ArrayList<>();
    private int horizon = -1;

    int rule(int process, int target, int delay, int mask) {
        if (outside(process, 0, 3) || outside(target, 0, 3)) {
            return -1;
        }
        if (outside(delay, 1, 9) || outside(mask, 0, 15)) {
            return -2;
        }
        if (!injected.isEmpty()) {
            return -5;
        }
        rules[process] = new int[] {target, delay, mask};
        return 0;
    }

    int inject(int process, int time, int what) {
        if (outside(process, 0, 3)) {
            return -1;
        }
        if (outside(time, 0, 99)) {
            return -2;
        }
        if (time <= horizon) {
            return -4;
        }
        if (injected.size() == 24) {
            return -3;
        }
        injected.add(new Event(process, time, what & 15, (what >> 4) & 3));
        return injected.size();
    }

    int work(int process, int n) {
        return outside(process, 0, 3) ? -1 : 0;
    }

    int commit(int time) {
        if (outside(time, 0, 200)) {
            return -2;
        }
        if (time < horizon) {
            return -4;
        }
        horizon = time;
        return count(-1, time);
    }

    void clear() {
        injected.clear();
        horizon = -1;
    }

    int state(int process, int time) {
        if (outside(process, 0, 3) || outside(time, horizon, 200)) {
            return 0;
        }
        int[] states = new int[4];
        run(time, states);
        return states[process];
    }

    int handled(int process, int time) {
        if (outside(process, 0, 3)) {
            return -1;
        }
        return outside(time, horizon, 200) ? -4 : count(process, time);
    }

    int lastTime() {
        int last = -1;
        for (Event event : run(200, new int[4])) {
            last = Math.max(last, event.time);
        }
        return last;
    }

    int events() {
        return count(-1, 200);
    }

    int horizon() {
        return horizon;
    }

    private static boolean outside(int number, int least, int most) {
        return number < least || number > most;
    }

    private int count(int process, int time) {
        int count = 0;
        for (Event event : run(time, new int[4])) {
            if (process == -1 || event.process == process) {
                count++;
            }
        }
        return count;
    }

    private List<Event> run(int lastTime, int[] states) {
        List<Event> known = new ArrayList<>(injected);
        List<Event> done = new ArrayList<>();
        for (int time = 0; time <= lastTime; time++) {
            for (int process = 3; process >= 0; process--) {
                for (Event event : due(known, process, time)) {
                    done.add(event);
                    handle(event, states, known);
                }
            }
        }
        return done;
    }

    private static List<Event> due(List<Event> known, int process, int time) {
        List<Event> due = new ArrayList<>();
        for (Event event : known) {
            if (event.process == process && event.time == time) {
                due.add(event);
            }
        }
        due.sort(Comparator.<Event>comparingInt(event -> event.value).thenComparingInt(event -> event.life));
        return due;
    }

    private void handle(Event event, int[] states, List<Event> known) {
        int state = states[event.process] * 5 + event.value + 1;
        states[event.process] = state;
        int[] rule = rules[event.process];
        if (event.life > 0 && (state & rule[2]) == 0) {
            known.add(new Event(rule[0], event.time + rule[1], (state >> 2) & 15, event.life - 1));
        }
    }
}
