import java.util.Random;

/** The clock that is set while some are asleep, and the ticks in which they wake. */
public final class ClockTest {
    private static final int[] CLOCKS = {0, 1, -1, 3, 1000, -1000, Integer.MAX_VALUE,
        Integer.MAX_VALUE - 2, Integer.MIN_VALUE, Integer.MIN_VALUE + 1};
    private static final int SLEEP_TICKS = 4;
    private static final Check CHECK = new Check();

    public static void main(String[] args) {
        for (int clock : CLOCKS) {
            for (int slept = 0; slept <= SLEEP_TICKS; slept++) {
                sleepsOnAsLong(clock, slept);
            }
            setBeforeItFallsAsleep(clock);
        }
        for (int seed = 0; seed < 200; seed++) {
            severalAsleep(seed);
        }
        setWhileOthersWait();
        wakersTakeTurns();
        wakesThoughAnotherRuns();
        mailWhileAsleep();
        CHECK.end("ClockTest");
    }

    /** The clock is set when so many ticks are slept, the last of them too. */
    private static void sleepsOnAsLong(int clock, int slept) {
        CHECK.about("Promise 18", "The CLOCK becomes this (those ASLEEP sleep on as long)");
        RobotWorld world = new RobotWorld(1, 1, 1, 9, 1);
        Words.start(world, 0, 0, Words.set(1, SLEEP_TICKS), Words.word(Words.SLEEP, 1, 0),
                Words.word(Words.CLOCK, 2, 0));
        world.runTicks(2 + slept);
        world.setClock(clock);
        CHECK.same("now", world.now(), clock);
        int left = SLEEP_TICKS - slept;
        for (int i = 0; i < left; i++) {
            CHECK.same("ticks left", world.reg(0, Words.SLEEP_LEFT), left - i);
            CHECK.same("slept through", world.tick(), RobotWorld.NONE);
            CHECK.same("asleep", world.robotState(0), Words.ASLEEP);
        }
        CHECK.same("no ticks left", world.reg(0, Words.SLEEP_LEFT), 0);
        CHECK.same("it runs", world.tick(), 0);
        CHECK.about("Word 23", "the CLOCK.");
        CHECK.same("the clock that it sees", world.reg(0, 2), clock + left);
        CHECK.same("now at last", world.now(), clock + left + 1);
    }

    private static void setBeforeItFallsAsleep(int clock) {
        CHECK.about("Word 19", "it is ASLEEP for the next R ticks");
        RobotWorld world = new RobotWorld(1, 1, 1, 9, 1);
        Words.start(world, 0, 0, Words.set(1, 2), Words.word(Words.SLEEP, 1, 0), Words.set(2, 9));
        world.tick();
        world.setClock(clock);
        CHECK.same("it falls asleep", world.tick(), 0);
        CHECK.same("ticks left", world.reg(0, Words.SLEEP_LEFT), 2);
        CHECK.same("slept through", world.runTicks(2), 0);
        CHECK.same("it runs", world.tick(), 0);
    }

    /** Three robots that sleep again and again; one world's clock is set, the other's is not. */
    private static void severalAsleep(int seed) {
        CHECK.about("Promise 18", "(those ASLEEP sleep on as long)");
        RobotWorld world = sleepers(new Random(seed));
        RobotWorld twin = sleepers(new Random(seed));
        Random random = new Random(-seed);
        int clock = 0;
        for (int i = 0; i < 40; i++) {
            if (random.nextInt(3) == 0) {
                clock = CLOCKS[random.nextInt(CLOCKS.length)];
                world.setClock(clock);
            }
            String what = "seed " + seed + ", tick " + i;
            CHECK.same(what, world.tick(), twin.tick());
            clock++;
            CHECK.same(what + ", now", world.now(), clock);
            for (int id = 0; id < 3; id++) {
                CHECK.same(what + ", ticks left of " + id, world.reg(id, Words.SLEEP_LEFT),
                        twin.reg(id, Words.SLEEP_LEFT));
                CHECK.same(what + ", state of " + id, world.robotState(id), twin.robotState(id));
            }
        }
    }

    private static RobotWorld sleepers(Random random) {
        RobotWorld world = new RobotWorld(3, 1, 3, 9, 1);
        for (int x = 0; x < 3; x++) {
            Words.start(world, x, 0, Words.set(1, random.nextInt(6)), Words.word(Words.SLEEP, 1, 0),
                    Words.set(2, random.nextInt(9)), Words.word(Words.SLEEP, 2, 0),
                    Words.word(Words.JUMP, 0, 0, 0));
        }
        return world;
    }

    private static void setWhileOthersWait() {
        CHECK.about("Promise 18", "The CLOCK becomes this");
        RobotWorld world = new RobotWorld(3, 1, 3, 9, 1);
        Words.start(world, 0, 0, Words.word(Words.RECEIVE, 1, 0));
        Words.start(world, 1, 0, Words.word(Words.END, 0, 0));
        world.spawn(2, 0);
        world.runTicks(2);
        int[] due = {Words.WAITING, Words.DONE, Words.NEW};
        for (int clock : CLOCKS) {
            world.setClock(clock);
            for (int id = 0; id < 3; id++) {
                CHECK.same("state of " + id, world.robotState(id), due[id]);
                CHECK.same("ticks left of " + id, world.reg(id, Words.SLEEP_LEFT), 0);
            }
            CHECK.same("none runs", world.tick(), RobotWorld.NONE);
            CHECK.same("now", world.now(), clock + 1);
        }
    }

    /** Their ticks end in one tick; the first to run is the next behind the number that ran last. */
    private static void wakersTakeTurns() {
        CHECK.about("Terms", "those ASLEEP whose ticks are over become READY; then of READY ones the "
                + "next one behind the number that ran last");
        RobotWorld world = new RobotWorld(3, 1, 3, 9, 1);
        for (int x = 0; x < 3; x++) {
            Words.start(world, x, 0, Words.set(1, 6 - x), Words.word(Words.SLEEP, 1, 0),
                    Words.set(2, 1), Words.word(Words.END, 0, 0));
        }
        CHECK.same("all fall asleep", world.runTicks(6), 6);
        CHECK.same("all sleep", world.runTicks(4), 0);
        for (int id = 0; id < 3; id++) {
            CHECK.same("asleep " + id, world.robotState(id), Words.ASLEEP);
            CHECK.same("ticks left of " + id, world.reg(id, Words.SLEEP_LEFT), 0);
        }
        CHECK.same("behind the last", world.tick(), 0);
        for (int id = 0; id < 3; id++) {
            CHECK.same("awake " + id, world.robotState(id), Words.READY);
        }
        CHECK.same("the next", world.tick(), 1);
        CHECK.same("and the last", world.tick(), 2);
        CHECK.same("round about", world.tick(), 0);
    }

    private static void wakesThoughAnotherRuns() {
        CHECK.about("Terms", "those ASLEEP whose ticks are over become READY");
        RobotWorld world = new RobotWorld(2, 1, 2, 9, 1);
        Words.start(world, 0, 0, Words.set(1, 1), Words.word(Words.SLEEP, 1, 0), Words.set(2, 1));
        Words.start(world, 1, 0, Words.word(Words.JUMP, 0, 0, 0));
        int[] ran = {0, 1, 0, 1, 0};
        int[] state = {Words.READY, Words.READY, Words.ASLEEP, Words.ASLEEP, Words.READY};
        for (int i = 0; i < ran.length; i++) {
            CHECK.same("tick " + i, world.tick(), ran[i]);
            CHECK.same("state " + i, world.robotState(0), state[i]);
        }
        RobotWorld other = new RobotWorld(3, 1, 3, 9, 1);
        Words.start(other, 0, 0, Words.set(1, 2), Words.word(Words.SLEEP, 1, 0), Words.set(2, 1));
        Words.start(other, 1, 0, Words.word(Words.JUMP, 0, 0, 0));
        Words.start(other, 2, 0, Words.word(Words.JUMP, 0, 0, 0));
        int[] turns = {0, 1, 2, 0, 1, 2, 0};
        for (int i = 0; i < turns.length; i++) {
            CHECK.same("turn " + i, other.tick(), turns[i]);
        }
    }

    private static void mailWhileAsleep() {
        CHECK.about("Word 17", "S comes to the BOX of ROBOT number R: R becomes 1");
        RobotWorld world = new RobotWorld(2, 1, 2, 9, 2);
        Words.start(world, 0, 0, Words.set(1, 7), Words.word(Words.SLEEP, 1, 0),
                Words.word(Words.RECEIVE, 2, 0), Words.word(Words.RECEIVE, 3, 0));
        Words.start(world, 1, 0, Words.set(2, 5), Words.word(Words.SEND, 1, 2),
                Words.word(Words.SEND, 4, 2), Words.word(Words.SEND, 5, 2), Words.word(Words.END, 0, 0));
        world.runTicks(5);
        CHECK.same("two came", world.reg(0, Words.MAILS), 2);
        CHECK.same("asleep all the same", world.reg(0, Words.SLEEP_LEFT), 5);
        world.setClock(-3);
        CHECK.same("two words of the other", world.runTicks(5), 2);
        CHECK.same("no room for the third", world.reg(1, 5), 0);
        CHECK.same("it runs", world.tick(), 0);
        CHECK.same("what came first", world.reg(0, 2), 5);
        CHECK.same("it runs again", world.tick(), 0);
        CHECK.same("what came then", world.reg(0, 3), 5);
        CHECK.same("now", world.now(), 4);
    }
}
