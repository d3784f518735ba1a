/** init in the middle of a run: behind it the world is as a new one, to every call. */
public final class InitTest {
    private static final int W = 4, H = 3, MOST = 7, LONGEST = 6, MAILS = 2;
    private static final int JUMP_BACK = Words.word(Words.JUMP, 0, 0, 0);
    private static final Check CHECK = new Check();

    public static void main(String[] args) {
        for (int ticks = 0; ticks <= 16; ticks++) {
            asNew(ticks);
            runsAsNew(ticks);
        }
        sizesStay();
        sleepersAreGone();
        boxesAreEmpty();
        turnBeginsAnew();
        clockBeginsAnew();
        initTwice();
        CHECK.end("InitTest");
    }

    private static RobotWorld made() {
        return new RobotWorld(W, H, MOST, LONGEST, MAILS);
    }

    /** Walls, items, a clock, and robots that come into every state within a few ticks. */
    private static RobotWorld inTheMiddle(int ticks) {
        RobotWorld world = made();
        world.setWall(3, 0, true);
        world.setWall(0, 2, true);
        Words.putItems(world, 1, 0, 3);
        Words.putItems(world, 2, 2, 1);
        world.setClock(-4);
        Words.make(world, 0, 0, Words.set(1, 1));
        Words.start(world, 1, 0, Words.word(Words.TAKE, 1, 0), JUMP_BACK);
        Words.start(world, 2, 0, Words.set(1, 2), Words.word(Words.SLEEP, 1, 0), JUMP_BACK);
        Words.start(world, 0, 1, Words.word(Words.RECEIVE, 1, 0));
        Words.start(world, 1, 1, Words.word(Words.END, 0, 0));
        Words.start(world, 2, 1, 255);
        Words.start(world, 3, 1, Words.set(1, 6), Words.set(2, 5), Words.word(Words.SEND, 1, 2),
                JUMP_BACK);
        world.runTicks(ticks);
        CHECK.same("a way is measured", world.pathLength(0, 0, 3, 2), 5);
        return world;
    }

    private static void asNew(int ticks) {
        CHECK.about("Promise 2", "All as at first.");
        RobotWorld world = inTheMiddle(ticks);
        world.init();
        CHECK.alike("after " + ticks + " ticks", Twins.shown(world), Twins.shown(made()));
        for (int id = 0; id < MOST; id++) {
            CHECK.same("kill", world.kill(id), RobotWorld.BAD);
            CHECK.same("start", world.startRobot(id), RobotWorld.BAD);
            CHECK.no("load", world.load(id, 0));
        }
        CHECK.same("the way over what was a wall", world.pathLength(0, 0, 3, 0), 3);
        CHECK.same("none runs", world.runTicks(20), 0);
        CHECK.same("now", world.now(), 20);
    }

    private static void runsAsNew(int ticks) {
        CHECK.about("Promise 2", "All as at first.");
        RobotWorld world = inTheMiddle(ticks);
        world.init();
        RobotWorld fresh = made();
        fill(world);
        fill(fresh);
        CHECK.alike("filled, after " + ticks + " ticks", Twins.shown(world), Twins.shown(fresh));
        for (int i = 0; i < 30; i++) {
            CHECK.same("tick " + i, world.tick(), fresh.tick());
        }
        CHECK.alike("ran on, after " + ticks + " ticks", Twins.shown(world), Twins.shown(fresh));
    }

    private static void fill(RobotWorld world) {
        world.setWall(1, 1, true);
        world.putItem(2, 0);
        Words.start(world, 3, 0, Words.set(1, 0), Words.set(2, 2), Words.word(Words.WAY, 1, 2),
                Words.word(Words.GO, 1, 3), JUMP_BACK);
        Words.start(world, 2, 0, Words.word(Words.TAKE, 1, 0), Words.word(Words.RECEIVE, 2, 0));
        Words.start(world, 2, 1, Words.word(Words.CLOCK, 3, 0), Words.set(1, 1),
                Words.word(Words.SEND, 1, 3), Words.set(4, 4), Words.word(Words.SLEEP, 4, 0), JUMP_BACK);
    }

    private static void sizesStay() {
        CHECK.about("Promise 2", "All as at first.");
        RobotWorld world = inTheMiddle(9);
        world.init();
        CHECK.same("the last square", world.at(W - 1, H - 1), 0);
        CHECK.same("east of it", world.at(W, H - 1), -2);
        CHECK.same("south of it", world.at(W - 1, H), -2);
        for (int id = 0; id < MOST; id++) {
            CHECK.same("number " + id, world.spawn(id % W, id / W), id);
            for (int i = 0; i < LONGEST; i++) {
                CHECK.yes("word " + i, world.load(id, JUMP_BACK));
            }
            CHECK.no("a word too many", world.load(id, JUMP_BACK));
        }
        CHECK.same("a robot too many", world.spawn(W - 1, H - 1), RobotWorld.FULL);
        CHECK.same("no such number", world.robotState(MOST), RobotWorld.NONE);
    }

    private static void sleepersAreGone() {
        CHECK.about("Terms", "those ASLEEP whose ticks are over become READY");
        RobotWorld world = made();
        Words.start(world, 0, 0, Words.set(1, 3), Words.word(Words.SLEEP, 1, 0), JUMP_BACK);
        world.runTicks(3);
        CHECK.same("asleep", world.reg(0, Words.SLEEP_LEFT), 2);
        world.init();
        CHECK.same("a new one", world.spawn(0, 0), 0);
        CHECK.same("its ticks", world.reg(0, Words.SLEEP_LEFT), 0);
        CHECK.same("the old one's ticks pass", world.runTicks(5), 0);
        CHECK.same("NEW still", world.robotState(0), Words.NEW);
    }

    private static void boxesAreEmpty() {
        CHECK.about("Word 18", "if there is none it is WAITING, and the PLACE stays");
        RobotWorld world = made();
        Words.start(world, 0, 0, Words.set(2, 9), Words.word(Words.SEND, 1, 2), Words.set(1, 0),
                Words.word(Words.SEND, 1, 2));
        world.runTicks(4);
        CHECK.same("a full box", world.reg(0, Words.MAILS), MAILS);
        world.init();
        Words.start(world, 0, 0, Words.word(Words.RECEIVE, 3, 0));
        CHECK.same("an empty box", world.reg(0, Words.MAILS), 0);
        CHECK.same("it asks", world.tick(), 0);
        CHECK.same("it waits", world.robotState(0), Words.WAITING);
        CHECK.same("nothing came", world.reg(0, 3), 0);
    }

    private static void turnBeginsAnew() {
        CHECK.about("Terms", "behind the number that ran last (at first that of the greatest number)");
        for (int ticks = 0; ticks <= MOST; ticks++) {
            RobotWorld world = made();
            startAll(world);
            world.runTicks(ticks);
            world.init();
            startAll(world);
            for (int i = 0; i < MOST; i++) {
                CHECK.same("turn " + i + " after " + ticks, world.tick(), i);
            }
        }
    }

    private static void startAll(RobotWorld world) {
        for (int id = 0; id < MOST; id++) {
            Words.start(world, id % W, id / W, JUMP_BACK);
        }
    }

    private static void clockBeginsAnew() {
        CHECK.about("Promise 1", "An empty world, CLOCK 0.");
        int[] clocks = {5, -1, Integer.MAX_VALUE, Integer.MIN_VALUE};
        for (int clock : clocks) {
            RobotWorld world = made();
            world.setClock(clock);
            world.init();
            CHECK.same("now", world.now(), 0);
            Words.start(world, 0, 0, Words.word(Words.CLOCK, 1, 0), JUMP_BACK);
            world.runTicks(3);
            CHECK.same("what a robot sees", world.reg(0, 1), 2);
        }
    }

    private static void initTwice() {
        CHECK.about("Promise 2", "All as at first.");
        RobotWorld world = inTheMiddle(5);
        world.init();
        world.init();
        CHECK.alike("twice", Twins.shown(world), Twins.shown(made()));
        RobotWorld fresh = made();
        fresh.init();
        CHECK.alike("of a new one", Twins.shown(fresh), Twins.shown(made()));
    }
}
