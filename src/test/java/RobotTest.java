/** Promises 5 to 7 and 10 to 14: spawn, load, startRobot, kill, and what is told of a robot. */
public final class RobotTest {
    private static final int[] NO_NUMBERS = {-1, 3, 8, Integer.MIN_VALUE, Integer.MAX_VALUE};
    private static final Check CHECK = new Check();

    public static void main(String[] args) {
        spawnTakesLeastFreeNumber();
        spawnRefuses();
        loadOnlyNewOnes();
        startOnlyNewOnes();
        killLaysDownLoad();
        killLosesWhatIsTooMuch();
        killedNumberStartsAfresh();
        doneAndFailedOnesStay();
        toldOfRobot();
        toldOfNone();
        CHECK.end("RobotTest");
    }

    private static void spawnTakesLeastFreeNumber() {
        CHECK.about("Promise 5", "A NEW ROBOT: its number, the least that is free.");
        RobotWorld world = new RobotWorld(4, 2, 3, 1, 1);
        CHECK.same("first", world.spawn(3, 1), 0);
        CHECK.same("second", world.spawn(2, 1), 1);
        CHECK.same("third", world.spawn(1, 1), 2);
        world.kill(1);
        world.kill(0);
        CHECK.same("least free", world.spawn(0, 0), 0);
        CHECK.same("next free", world.spawn(1, 0), 1);
        CHECK.same("x", world.robotX(1), 1);
        CHECK.same("y", world.robotY(1), 0);
        CHECK.same("x of 2", world.robotX(2), 1);
        CHECK.same("y of 2", world.robotY(2), 1);
        CHECK.same("state", world.robotState(1), Words.NEW);
    }

    private static void spawnRefuses() {
        CHECK.about("Promise 5", "BAD: outside, or a WALL; TAKEN: a ROBOT is there; FULL.");
        RobotWorld world = new RobotWorld(3, 2, 1, 1, 1);
        world.setWall(2, 1, true);
        int[][] bad = {{-1, 0}, {0, -1}, {3, 0}, {0, 2}, {2, 1}, {Integer.MAX_VALUE, 0}};
        for (int[] square : bad) {
            CHECK.same("bad", world.spawn(square[0], square[1]), RobotWorld.BAD);
        }
        CHECK.same("good", world.spawn(1, 1), 0);
        CHECK.same("taken, though full", world.spawn(1, 1), RobotWorld.TAKEN);
        CHECK.same("bad, though full", world.spawn(2, 1), RobotWorld.BAD);
        CHECK.same("full", world.spawn(0, 0), RobotWorld.FULL);
        RobotWorld roomy = new RobotWorld(1, 1, 2, 1, 1);
        roomy.spawn(0, 0);
        CHECK.same("taken, not full", roomy.spawn(0, 0), RobotWorld.TAKEN);
    }

    private static void loadOnlyNewOnes() {
        CHECK.about("Promise 6", "A word more of a NEW ROBOT'S program: whether (not if it is as "
                + "long as it may be).");
        RobotWorld world = new RobotWorld(3, 1, 3, 2, 1);
        CHECK.no("no robot yet", world.load(0, 1));
        world.spawn(0, 0);
        for (int id : NO_NUMBERS) {
            CHECK.no("load " + id, world.load(id, 1));
        }
        CHECK.yes("word", world.load(0, Words.set(1, 7)));
        CHECK.same("one word", world.reg(0, Words.LENGTH), 1);
        CHECK.yes("second word", world.load(0, -1));
        CHECK.no("third word", world.load(0, 0));
        CHECK.same("two words", world.reg(0, Words.LENGTH), 2);
        CHECK.same("no word of the other", world.spawn(1, 0), 1);
        CHECK.same("its length", world.reg(1, Words.LENGTH), 0);
        world.startRobot(1);
        CHECK.no("a READY one", world.load(1, 0));
        world.startRobot(0);
        world.runTicks(6);
        CHECK.same("its word was done", world.reg(0, 1), 7);
        CHECK.no("a FAILED one", world.load(0, 0));
        CHECK.no("a FAILED one with room", world.load(1, 0));
    }

    private static void startOnlyNewOnes() {
        CHECK.about("Promise 7", "A NEW ROBOT is READY: 1. BAD: it is not NEW, or there is none.");
        RobotWorld world = new RobotWorld(3, 1, 3, 2, 1);
        CHECK.same("none there", world.startRobot(0), RobotWorld.BAD);
        for (int id : NO_NUMBERS) {
            CHECK.same("start " + id, world.startRobot(id), RobotWorld.BAD);
        }
        world.spawn(0, 0);
        CHECK.same("a NEW one does not run", world.tick(), RobotWorld.NONE);
        CHECK.same("start", world.startRobot(0), 1);
        CHECK.same("READY", world.robotState(0), Words.READY);
        CHECK.same("start again", world.startRobot(0), RobotWorld.BAD);
        world.tick();
        CHECK.same("without words", world.robotState(0), Words.FAILED);
        CHECK.same("start a FAILED one", world.startRobot(0), RobotWorld.BAD);
    }

    private static void killLaysDownLoad() {
        CHECK.about("Promise 10", "A ROBOT goes; its LOAD comes to its square");
        RobotWorld world = new RobotWorld(2, 2, 3, 20, 1);
        CHECK.same("kill none", world.kill(0), RobotWorld.BAD);
        for (int id : NO_NUMBERS) {
            CHECK.same("kill " + id, world.kill(id), RobotWorld.BAD);
        }
        world.putItem(0, 1);
        world.putItem(0, 1);
        world.putItem(0, 1);
        Words.start(world, 0, 1, Words.word(Words.TAKE, 0, 0), Words.word(Words.TAKE, 0, 0),
                Words.set(1, 1), Words.word(Words.GO, 1, 2));
        world.runTicks(4);
        CHECK.same("two carried", world.reg(0, Words.LOAD), 2);
        CHECK.same("killed with two", world.kill(0), 2);
        CHECK.same("its square", world.at(1, 1), 2);
        CHECK.same("where they came from", world.at(0, 1), 1);
        CHECK.same("state", world.robotState(0), Words.ABSENT);
        CHECK.same("kill again", world.kill(0), RobotWorld.BAD);
    }

    private static void killLosesWhatIsTooMuch() {
        CHECK.about("Promise 10", "(99 there at most, what is more is lost): how many ITEMS it "
                + "had.");
        RobotWorld world = new RobotWorld(1, 1, 1, 20, 1);
        fill(world, 9);
        Words.start(world, 0, 0, Words.word(Words.TAKE, 0, 0), Words.word(Words.JUMP, 0, 0, 0));
        world.runTicks(30);
        CHECK.same("nine carried", world.reg(0, Words.LOAD), 9);
        fill(world, 95);
        CHECK.same("killed with nine", world.kill(0), 9);
        CHECK.same("ninety-nine there", world.at(0, 0), 99);
    }

    private static void fill(RobotWorld world, int items) {
        for (int i = 0; i < items; i++) {
            world.putItem(0, 0);
        }
    }

    private static void killedNumberStartsAfresh() {
        CHECK.about("Promise 5", "A NEW ROBOT: its number, the least that is free.");
        RobotWorld world = new RobotWorld(2, 1, 1, 20, 4);
        world.putItem(0, 0);
        Words.start(world, 0, 0, Words.word(Words.TAKE, 7, 0), Words.word(Words.NUMBER, 0, 0),
                Words.word(Words.SEND, 0, 7), Words.set(1, 50), Words.word(Words.SLEEP, 1, 0));
        world.runTicks(5);
        int[] due = {1, 50, 0, 0, 0, 0, 0, 1, 5, 1, 1, 5, 5, 50};
        for (int r = 0; r < due.length; r++) {
            CHECK.same("reg " + r, world.reg(0, r), due[r]);
        }
        world.kill(0);
        for (int r = 0; r < due.length; r++) {
            CHECK.same("reg of none " + r, world.reg(0, r), 0);
        }
        CHECK.same("number again", world.spawn(1, 0), 0);
        for (int r = 0; r < due.length; r++) {
            CHECK.same("reg of the new one " + r, world.reg(0, r), 0);
        }
        CHECK.same("NEW", world.robotState(0), Words.NEW);
        CHECK.yes("a program of its own", world.load(0, Words.word(Words.RECEIVE, 2, 0)));
        world.startRobot(0);
        CHECK.same("it runs", world.tick(), 0);
        CHECK.same("its box is empty", world.robotState(0), Words.WAITING);
    }

    private static void doneAndFailedOnesStay() {
        CHECK.about("Terms", "a STATE: 0 there is none, 1 NEW, 2 READY, 3 ASLEEP, 4 WAITING, 5 "
                + "DONE, 6 FAILED.");
        RobotWorld world = new RobotWorld(2, 1, 2, 1, 1);
        Words.start(world, 0, 0, Words.word(Words.END, 0, 0));
        Words.start(world, 1, 0, 255);
        world.runTicks(5);
        CHECK.same("DONE", world.robotState(0), Words.DONE);
        CHECK.same("FAILED", world.robotState(1), Words.FAILED);
        CHECK.same("the DONE one's square", world.at(0, 0), 256);
        CHECK.same("the FAILED one's square", world.at(1, 0), 512);
        CHECK.same("taken by it", world.spawn(1, 0), RobotWorld.TAKEN);
        CHECK.same("kill a FAILED one", world.kill(1), 0);
        CHECK.same("kill a DONE one", world.kill(0), 0);
    }

    private static void toldOfRobot() {
        CHECK.about("Promise 14", "A REGISTER (0 without one); from 8 on: 8 its PLACE, 9 its "
                + "LOAD, 10 numbers in its BOX, 11 words of its program");
        RobotWorld world = new RobotWorld(5, 4, 2, 20, 4);
        world.spawn(0, 0);
        int id = Words.start(world, 4, 2, Words.set(0, 1), Words.set(1, -2), Words.set(2, 3),
                Words.set(3, -4), Words.set(4, 5), Words.set(5, -6), Words.set(6, 7),
                Words.set(7, -8));
        world.runTicks(8);
        CHECK.same("number", id, 1);
        CHECK.same("x", world.robotX(1), 4);
        CHECK.same("y", world.robotY(1), 2);
        CHECK.same("x of 0", world.robotX(0), 0);
        CHECK.same("y of 0", world.robotY(0), 0);
        int[] due = {1, -2, 3, -4, 5, -6, 7, -8, 8, 0, 0, 8, 8, 0};
        for (int r = 0; r < due.length; r++) {
            CHECK.same("reg " + r, world.reg(1, r), due[r]);
        }
        int[] others = {-1, 14, 15, 16, 255, Integer.MIN_VALUE, Integer.MAX_VALUE};
        for (int r : others) {
            CHECK.same("reg " + r, world.reg(1, r), 0);
        }
    }

    private static void toldOfNone() {
        CHECK.about("Promise 13", "Its STATE; NONE: no such number.");
        RobotWorld world = new RobotWorld(5, 4, 3, 20, 4);
        for (int id : NO_NUMBERS) {
            CHECK.same("x", world.robotX(id), RobotWorld.NONE);
            CHECK.same("y", world.robotY(id), RobotWorld.NONE);
            CHECK.same("state", world.robotState(id), RobotWorld.NONE);
            CHECK.same("reg", world.reg(id, 0), 0);
            CHECK.same("place", world.reg(id, 8), 0);
        }
        CHECK.same("x of 2", world.robotX(2), RobotWorld.NONE);
        CHECK.same("y of 2", world.robotY(2), RobotWorld.NONE);
        CHECK.same("state of 2", world.robotState(2), Words.ABSENT);
        CHECK.same("reg of 2", world.reg(2, 11), 0);
    }
}
