/** Refused calls: each answers as the document says and leaves all as it was. */
public final class RefusedTest {
    private static final int LEAST = Integer.MIN_VALUE;
    private static final int GREATEST = Integer.MAX_VALUE;
    private static final int BAD = RobotWorld.BAD;
    private static final int NONE = RobotWorld.NONE;
    private static final int[] FOR_EVER = {Words.word(Words.JUMP, 0, 0, 0)};
    private static final Check CHECK = new Check();

    /** Outside of a world of 4 times 3. */
    private static final int[][] OUTSIDE = {{-1, 0}, {4, 0}, {0, -1}, {0, 3}, {4, 3}, {-1, -1},
        {LEAST, 1}, {1, GREATEST}, {0, 1 << 30}};

    /** No numbers of robots where most is 5. */
    private static final int[] NO_NUMBERS = {-1, 5, 8, LEAST, GREATEST};

    private static final Twins BUSY = new Twins(CHECK, RefusedTest::busy);
    private static final Twins CROWDED = new Twins(CHECK, RefusedTest::crowded);

    public static void main(String[] args) {
        theWorldsAreAsTold();
        wall();
        item();
        robotOutsideOrOnWall();
        robotOnRobot();
        robotTooMany();
        word();
        start();
        ticks();
        kill();
        where();
        state();
        register();
        square();
        way();
        CHECK.end("RefusedTest");
    }

    /**
     * Walls on (3, 0) and (3, 1), 99 items on (0, 0). Robot 0 is READY on (0, 1), 1 WAITING on (1, 1),
     * 2 ASLEEP on (2, 1), 3 NEW on (1, 0) with as many words as may be; 4 is free.
     */
    private static RobotWorld busy() {
        RobotWorld world = new RobotWorld(4, 3, 5, 6, 2);
        world.setWall(3, 0, true);
        world.setWall(3, 1, true);
        Words.putItems(world, 0, 0, 99);
        Words.putItems(world, 0, 1, 3);
        Words.start(world, 0, 1, Words.word(Words.TAKE, 1, 0), Words.word(Words.ADD, 2, 1),
                Words.word(Words.GO, 2, 3), Words.word(Words.SEND, 4, 2), Words.set(4, 1),
                Words.word(Words.JUMP, 0, 0, 0));
        Words.start(world, 1, 1, Words.word(Words.RECEIVE, 5, 0), Words.word(Words.JUMP, 0, 0, 0));
        Words.start(world, 2, 1, Words.set(1, 9), Words.word(Words.SLEEP, 1, 0),
                Words.word(Words.CLOCK, 2, 0), Words.word(Words.JUMP, 0, 0, 0));
        Words.make(world, 1, 0, Words.set(1, 1), Words.set(2, 2), Words.set(3, 3), Words.set(4, 4),
                Words.set(5, 5), FOR_EVER[0]);
        world.runTicks(5);
        return world;
    }

    /** All three numbers are in use: 0 DONE on (0, 0), 1 FAILED on (1, 0), 2 READY on (2, 0). */
    private static RobotWorld crowded() {
        RobotWorld world = new RobotWorld(4, 3, 3, 6, 2);
        world.setWall(3, 0, true);
        Words.start(world, 0, 0, Words.word(Words.END, 0, 0), Words.word(Words.JUMP, 0, 0, 0));
        Words.start(world, 1, 0, 255, Words.word(Words.JUMP, 0, 0, 0));
        Words.start(world, 2, 0, Words.word(Words.ADD, 1, 2), Words.set(2, 1), FOR_EVER[0]);
        world.runTicks(5);
        return world;
    }

    private static int number(boolean answer) {
        return answer ? 1 : 0;
    }

    private static void theWorldsAreAsTold() {
        RobotWorld busy = busy();
        int[] states = {Words.READY, Words.WAITING, Words.ASLEEP, Words.NEW, Words.ABSENT, NONE};
        for (int id = 0; id < states.length; id++) {
            CHECK.same("busy, state of " + id, busy.robotState(id), states[id]);
        }
        CHECK.same("busy, 99 items", busy.at(0, 0), 99);
        CHECK.same("busy, a load", busy.reg(0, Words.LOAD), 1);
        CHECK.same("busy, all words", busy.reg(3, Words.LENGTH), 6);
        RobotWorld crowded = crowded();
        int[] others = {Words.DONE, Words.FAILED, Words.READY, NONE};
        for (int id = 0; id < others.length; id++) {
            CHECK.same("crowded, state of " + id, crowded.robotState(id), others[id]);
        }
    }

    private static void wall() {
        CHECK.about("Promise 3", "Not: outside, or a ROBOT is there.");
        for (int[] at : OUTSIDE) {
            BUSY.refuse("on, outside", 0, world -> number(world.setWall(at[0], at[1], true)));
            BUSY.refuse("off, outside", 0, world -> number(world.setWall(at[0], at[1], false)));
        }
        for (int id = 0; id < 4; id++) {
            int x = busy().robotX(id);
            int y = busy().robotY(id);
            BUSY.refuse("on, robot " + id, 0, world -> number(world.setWall(x, y, true)));
            BUSY.refuse("off, robot " + id, 0, world -> number(world.setWall(x, y, false)));
        }
        for (int id = 0; id < 3; id++) {
            int x = id;
            CROWDED.refuse("on, robot " + id, 0, world -> number(world.setWall(x, 0, true)));
            CROWDED.refuse("off, robot " + id, 0, world -> number(world.setWall(x, 0, false)));
        }
    }

    private static void item() {
        CHECK.about("Promise 4", "Not: outside, a WALL, or 99.");
        for (int[] at : OUTSIDE) {
            BUSY.refuse("outside", 0, world -> number(world.putItem(at[0], at[1])));
        }
        BUSY.refuse("a wall", 0, world -> number(world.putItem(3, 0)));
        BUSY.refuse("another wall", 0, world -> number(world.putItem(3, 1)));
        BUSY.refuse("99", 0, world -> number(world.putItem(0, 0)));
    }

    private static void robotOutsideOrOnWall() {
        CHECK.about("Promise 5", "BAD: outside, or a WALL");
        for (int[] at : OUTSIDE) {
            BUSY.refuse("outside", BAD, world -> world.spawn(at[0], at[1]));
            CROWDED.refuse("outside, though all are in use", BAD, world -> world.spawn(at[0], at[1]));
        }
        BUSY.refuse("a wall", BAD, world -> world.spawn(3, 0));
        CROWDED.refuse("a wall, though all are in use", BAD, world -> world.spawn(3, 0));
    }

    private static void robotOnRobot() {
        CHECK.about("Promise 5", "TAKEN: a ROBOT is there");
        for (int id = 0; id < 4; id++) {
            int x = busy().robotX(id);
            int y = busy().robotY(id);
            BUSY.refuse("robot " + id, RobotWorld.TAKEN, world -> world.spawn(x, y));
        }
        for (int id = 0; id < 3; id++) {
            int x = id;
            CROWDED.refuse("robot " + id + ", though all are in use", RobotWorld.TAKEN,
                    world -> world.spawn(x, 0));
        }
    }

    private static void robotTooMany() {
        CHECK.about("Promise 5", "FULL.");
        CROWDED.refuse("a free square", RobotWorld.FULL, world -> world.spawn(0, 1));
        CROWDED.refuse("the last square", RobotWorld.FULL, world -> world.spawn(3, 2));
    }

    private static void word() {
        CHECK.about("Promise 6", "A word more of a NEW ROBOT'S program: whether (not if it is as long "
                + "as it may be).");
        for (int id : NO_NUMBERS) {
            BUSY.refuse("no number " + id, 0, world -> number(world.load(id, 0)));
        }
        BUSY.refuse("no robot", 0, world -> number(world.load(4, 0)));
        BUSY.refuse("WAITING", 0, world -> number(world.load(1, 0)));
        BUSY.refuse("ASLEEP", 0, world -> number(world.load(2, 0)));
        BUSY.refuse("NEW, as long as it may be", 0, world -> number(world.load(3, 0)));
        CROWDED.refuse("DONE", 0, world -> number(world.load(0, 0)));
        CROWDED.refuse("FAILED", 0, world -> number(world.load(1, 0)));
        CROWDED.refuse("READY", 0, world -> number(world.load(2, 0)));
    }

    private static void start() {
        CHECK.about("Promise 7", "BAD: it is not NEW, or there is none.");
        for (int id : NO_NUMBERS) {
            BUSY.refuse("no number " + id, BAD, world -> world.startRobot(id));
        }
        BUSY.refuse("no robot", BAD, world -> world.startRobot(4));
        BUSY.refuse("READY", BAD, world -> world.startRobot(0));
        BUSY.refuse("WAITING", BAD, world -> world.startRobot(1));
        BUSY.refuse("ASLEEP", BAD, world -> world.startRobot(2));
        CROWDED.refuse("DONE", BAD, world -> world.startRobot(0));
        CROWDED.refuse("FAILED", BAD, world -> world.startRobot(1));
    }

    private static void ticks() {
        CHECK.about("Promise 9", "TICKS, n (0 .. 10000): in how many of them one ran. BAD.");
        int[] bad = {-1, LEAST, 10001, GREATEST};
        for (int n : bad) {
            BUSY.refuse("ticks " + n, BAD, world -> world.runTicks(n));
        }
        BUSY.refuse("no ticks", 0, world -> world.runTicks(0));
    }

    private static void kill() {
        CHECK.about("Promise 10", "BAD: there is none.");
        for (int id : NO_NUMBERS) {
            BUSY.refuse("no number " + id, BAD, world -> world.kill(id));
        }
        BUSY.refuse("no robot", BAD, world -> world.kill(4));
    }

    private static void where() {
        CHECK.about("Promise 11", "x of a ROBOT; NONE.");
        for (int id : NO_NUMBERS) {
            BUSY.refuse("no number " + id, NONE, world -> world.robotX(id));
        }
        BUSY.refuse("no robot", NONE, world -> world.robotX(4));
        CHECK.about("Promise 12", "y of a ROBOT; NONE.");
        for (int id : NO_NUMBERS) {
            BUSY.refuse("no number " + id, NONE, world -> world.robotY(id));
        }
        BUSY.refuse("no robot", NONE, world -> world.robotY(4));
    }

    private static void state() {
        CHECK.about("Promise 13", "Its STATE; NONE: no such number.");
        for (int id : NO_NUMBERS) {
            BUSY.refuse("no number " + id, NONE, world -> world.robotState(id));
        }
        BUSY.refuse("no robot", 0, world -> world.robotState(4));
    }

    private static void register() {
        CHECK.about("Promise 14", "A REGISTER (0 without one)");
        for (int id : NO_NUMBERS) {
            BUSY.refuse("no number " + id, 0, world -> world.reg(id, 11));
        }
        BUSY.refuse("no robot", 0, world -> world.reg(4, 11));
        CHECK.about("Promise 14", "0 for others.");
        int[] others = {-1, 14, LEAST, GREATEST};
        for (int r : others) {
            BUSY.refuse("reg " + r, 0, world -> world.reg(3, r));
        }
    }

    private static void square() {
        CHECK.about("Promise 15", "A square: -2 outside, -1 a WALL");
        for (int[] at : OUTSIDE) {
            BUSY.refuse("outside", -2, world -> world.at(at[0], at[1]));
        }
        BUSY.refuse("a wall", -1, world -> world.at(3, 0));
    }

    private static void way() {
        CHECK.about("Promise 16", "NONE: there is none, or one of the squares is outside or a WALL.");
        for (int[] at : OUTSIDE) {
            BUSY.refuse("from outside", NONE, world -> world.pathLength(at[0], at[1], 0, 0));
            BUSY.refuse("to outside", NONE, world -> world.pathLength(0, 0, at[0], at[1]));
        }
        BUSY.refuse("from a wall", NONE, world -> world.pathLength(3, 0, 0, 0));
        BUSY.refuse("to a wall", NONE, world -> world.pathLength(0, 0, 3, 1));
    }
}
