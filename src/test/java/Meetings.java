import java.util.TreeMap;

/** Counts how often the sentences of the document meet in random runs, so that none stays unmet. */
final class Meetings {
    private static final int LEAST = 100;
    private static final String[] STATES =
        {"ABSENT", "NEW", "READY", "ASLEEP", "WAITING", "DONE", "FAILED"};

    private final TreeMap<String, Integer> counts = new TreeMap<>();
    private final int[] killedIn = new int[8];
    private int askedBefore;

    Meetings() {
        for (int state = Words.NEW; state <= Words.FAILED; state++) {
            counts.put(inEach("number given again after a kill while ", state), 0);
            counts.put(inEach("init while one is ", state), 0);
            counts.put(inEach("clock set while one is ", state), 0);
        }
        counts.put("a way that a wall has changed", 0);
        counts.put("a way that is the same behind a change", 0);
    }

    private static String inEach(String what, int state) {
        return what + STATES[state];
    }

    private void met(String what) {
        counts.merge(what, 1, Integer::sum);
    }

    void newRun() {
        java.util.Arrays.fill(killedIn, Words.ABSENT);
    }

    void killed(int id, int state) {
        if (state > Words.ABSENT) {
            killedIn[id] = state;
        }
    }

    void spawned(int id) {
        if (id >= 0 && killedIn[id] != Words.ABSENT) {
            met(inEach("number given again after a kill while ", killedIn[id]));
            killedIn[id] = Words.ABSENT;
        }
    }

    void initWith(SlowWorld model) {
        countStates("init while one is ", model);
        newRun();
    }

    void clockSetWith(SlowWorld model) {
        countStates("clock set while one is ", model);
    }

    private void countStates(String what, SlowWorld model) {
        for (int id = 0; model.robotState(id) != RobotWorld.NONE; id++) {
            if (model.robotState(id) != Words.ABSENT) {
                met(inEach(what, model.robotState(id)));
            }
        }
    }

    void askedBefore(int length) {
        askedBefore = length;
    }

    void askedBehind(int length) {
        met(length == askedBefore ? "a way that is the same behind a change"
                : "a way that a wall has changed");
    }

    void end(Check check) {
        for (String what : counts.keySet()) {
            check.yes("met often enough: " + what + ", " + counts.get(what) + " times",
                    counts.get(what) >= LEAST);
        }
    }
}
