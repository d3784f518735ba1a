/** The words that end FAILED, and that the PLACE and all else stay. */
public final class FailedTest {
    private static final int LEAST = Integer.MIN_VALUE;
    private static final int[] FOR_EVER = {Words.word(Words.JUMP, 0, 0, 0)};
    private static final int LAST_OP = Words.CARRIED;
    private static final Check CHECK = new Check();

    /** Where the word to fail stands in the program of failing(), and how many words are in it. */
    private static final int AT = 9;
    private static final int LENGTH = 11;

    public static void main(String[] args) {
        otherOps();
        registersAboveSeven();
        registersUpToSeven();
        divisorOfZero();
        zeroElsewhere();
        placeBehindProgram();
        placeByJump();
        placeInProgram();
        wordsOfAnEarlierRobot();
        wordsThatAreNotReached();
        failedStaysFailed();
        failedHasItsTurn();
        failedKeepsWhatItHad();
        CHECK.end("FailedTest");
    }

    /**
     * A robot that has something in each of its parts and is at the word: a load of 1, two numbers
     * in its box, 5 in register 2, 1 in 3, and 3 and -7 for the sake of ops that go or ask.
     */
    private static RobotWorld failing(int word) {
        RobotWorld world = new RobotWorld(3, 3, 2, LENGTH, 4);
        Words.putItems(world, 1, 1, 2);
        Words.start(world, 1, 1, Words.set(2, 5), Words.set(4, 0), Words.word(Words.SEND, 4, 2),
                Words.set(4, 0), Words.word(Words.SEND, 4, 2), Words.word(Words.TAKE, 3, 0),
                Words.set(5, 3), Words.set(6, -7), Words.set(7, 0), word, FOR_EVER[0]);
        CHECK.same("words before it", world.runTicks(AT), AT);
        CHECK.same("READY before it", world.robotState(0), Words.READY);
        return world;
    }

    private static void mustFail(String what, int word) {
        RobotWorld world = failing(word);
        String before = Twins.shown(world);
        CHECK.same(what + " has its turn", world.tick(), 0);
        CHECK.same(what + " is FAILED", world.robotState(0), Words.FAILED);
        String due = before.replace("now " + AT, "now " + (AT + 1))
                .replace("robot 0 state " + Words.READY, "robot 0 state " + Words.FAILED);
        CHECK.alike(what, Twins.shown(world), due);
        CHECK.same(what + " runs no more", world.tick(), RobotWorld.NONE);
    }

    private static void mustNotFail(String what, int word) {
        RobotWorld world = failing(word);
        CHECK.same(what + " has its turn", world.tick(), 0);
        CHECK.no(what + " is FAILED", world.robotState(0) == Words.FAILED);
        CHECK.same(what + " is done", world.reg(0, Words.WORDS_DONE), AT + 1);
    }

    private static void otherOps() {
        CHECK.about("FAILED", "FAILED (PLACE and all else stay): another op");
        for (int op = LAST_OP + 1; op <= 255; op++) {
            mustFail("op " + op, Words.word(op, 2, 3, 1));
        }
        for (int op = 0; op <= LAST_OP; op++) {
            mustNotFail("op " + op, Words.word(op, 2, 3, 1));
        }
        mustFail("a word of ones", -1);
        mustFail("the least word's neighbour", LEAST + 255);
    }

    private static void registersAboveSeven() {
        CHECK.about("FAILED", "r or s above 7 (also where it is not used)");
        for (int op = 0; op <= LAST_OP; op++) {
            for (int high = 8; high <= 15; high++) {
                mustFail("op " + op + ", r " + high, Words.word(op, high, 3));
                mustFail("op " + op + ", s " + high, Words.word(op, 2, high));
            }
            mustFail("op " + op + ", both 8", Words.word(op, 8, 8));
            mustFail("op " + op + ", both 15", Words.word(op, 15, 15, -1));
        }
    }

    private static void registersUpToSeven() {
        CHECK.about("Terms", "an op in bits 0 .. 7, r in 8 .. 11, s in 12 .. 15, n in 16 .. 31 with its "
                + "sign");
        for (int op = 0; op <= LAST_OP; op++) {
            boolean divides = op == Words.DIVIDE || op == Words.REST;
            mustNotFail("op " + op + ", r 7", Words.word(op, 7, 2));
            mustNotFail("op " + op + ", r 0", Words.word(op, 0, 2));
            mustNotFail("op " + op + ", s 0", Words.word(op, 2, divides ? 3 : 0));
            mustNotFail("op " + op + ", s 7", Words.word(op, 2, divides ? 6 : 7));
            mustNotFail("op " + op + ", n -1", Words.word(op, 2, 3, -1));
            mustNotFail("op " + op + ", n 32767", Words.word(op, 2, 3, 32767));
        }
    }

    private static void divisorOfZero() {
        CHECK.about("FAILED", "S 0 with 6, 7");
        int[] ops = {Words.DIVIDE, Words.REST};
        for (int op : ops) {
            mustFail("op " + op + ", R 5", Words.word(op, 2, 7));
            mustFail("op " + op + ", R -7", Words.word(op, 6, 7));
            mustFail("op " + op + ", R 0", Words.word(op, 0, 7));
            mustFail("op " + op + ", R and S in one", Words.word(op, 7, 7));
            mustNotFail("op " + op + ", S 1", Words.word(op, 2, 3));
            mustNotFail("op " + op + ", S -7", Words.word(op, 2, 6));
            mustNotFail("op " + op + ", R 0, S 5", Words.word(op, 7, 2));
        }
    }

    private static void zeroElsewhere() {
        CHECK.about("FAILED", "S 0 with 6, 7");
        for (int op = 0; op <= LAST_OP; op++) {
            if (op != Words.DIVIDE && op != Words.REST) {
                mustNotFail("op " + op + ", S 0", Words.word(op, 2, 7));
                mustNotFail("op " + op + ", R and S 0", Words.word(op, 7, 7));
            }
        }
    }

    private static void placeBehindProgram() {
        CHECK.about("FAILED", "the PLACE is not in the program");
        int[] lengths = {0, 1, 2, 99, 100};
        for (int length : lengths) {
            RobotWorld world = new RobotWorld(1, 1, 1, 100, 1);
            world.spawn(0, 0);
            for (int i = 0; i < length; i++) {
                world.load(0, Words.set(1, i));
            }
            world.startRobot(0);
            CHECK.same("its words", world.runTicks(length), length);
            CHECK.same("READY behind the last", world.robotState(0), Words.READY);
            CHECK.same("place behind the last", world.reg(0, Words.PLACE), length);
            CHECK.same("its turn", world.tick(), 0);
            CHECK.same("FAILED", world.robotState(0), Words.FAILED);
            CHECK.same("place stays", world.reg(0, Words.PLACE), length);
            CHECK.same("words done", world.reg(0, Words.WORDS_DONE), length);
        }
    }

    private static void placeByJump() {
        CHECK.about("FAILED", "the PLACE is not in the program");
        int[] places = {3, 4, 99, 100, 101, 32767, -1, -2, -3, -100, -32768};
        int[] ops = {Words.JUMP, Words.JUMP_ZERO, Words.JUMP_NOT_ZERO};
        for (int place : places) {
            for (int op : ops) {
                RobotWorld world = new RobotWorld(1, 1, 1, 100, 1);
                Words.start(world, 0, 0, Words.set(1, op == Words.JUMP_NOT_ZERO ? 1 : 0),
                        Words.word(op, 1, 0, place), FOR_EVER[0]);
                world.runTicks(2);
                CHECK.same("READY yet, place " + place, world.robotState(0), Words.READY);
                CHECK.same("place", world.reg(0, Words.PLACE), place);
                CHECK.same("its turn", world.tick(), 0);
                CHECK.same("FAILED, place " + place, world.robotState(0), Words.FAILED);
                CHECK.same("place stays", world.reg(0, Words.PLACE), place);
                CHECK.same("words done", world.reg(0, Words.WORDS_DONE), 2);
            }
        }
    }

    private static void placeInProgram() {
        CHECK.about("FAILED", "the PLACE is not in the program");
        int[] lengths = {1, 2, 100};
        for (int length : lengths) {
            RobotWorld world = new RobotWorld(1, 1, 1, 100, 1);
            Words.make(world, 0, 0, Words.word(Words.JUMP, 0, 0, length - 1));
            for (int i = 1; i < length; i++) {
                world.load(0, Words.word(Words.JUMP, 0, 0, i == length - 1 ? 0 : -1));
            }
            world.startRobot(0);
            CHECK.same("first and last word in turn", world.runTicks(100), 100);
            CHECK.same("READY", world.robotState(0), Words.READY);
        }
    }

    private static void wordsOfAnEarlierRobot() {
        CHECK.about("FAILED", "the PLACE is not in the program");
        RobotWorld world = new RobotWorld(1, 1, 1, 3, 1);
        Words.start(world, 0, 0, Words.set(1, 1), Words.set(2, 2), FOR_EVER[0]);
        world.runTicks(5);
        world.kill(0);
        Words.start(world, 0, 0, Words.set(3, 3));
        CHECK.same("one word, and the turn that fails", world.runTicks(9), 2);
        CHECK.same("FAILED", world.robotState(0), Words.FAILED);
        CHECK.same("no word of the earlier one", world.reg(0, 2), 0);
        world.init();
        Words.start(world, 0, 0);
        CHECK.same("none after init", world.runTicks(9), 1);
        CHECK.same("FAILED after init", world.robotState(0), Words.FAILED);
    }

    private static void wordsThatAreNotReached() {
        CHECK.about("Promise 6", "A word more of a NEW ROBOT'S program: whether");
        RobotWorld world = new RobotWorld(1, 1, 1, 9, 1);
        world.spawn(0, 0);
        int[] odd = {-1, LEAST, 255, Integer.MAX_VALUE};
        world.load(0, Words.word(Words.JUMP, 0, 0, 5));
        for (int word : odd) {
            CHECK.yes("any word is taken", world.load(0, word));
        }
        world.load(0, FOR_EVER[0]);
        world.startRobot(0);
        CHECK.same("they do nothing where they stand", world.runTicks(20), 20);
    }

    /** Robot 0 is FAILED at once; the other goes on. */
    private static RobotWorld withFailed() {
        RobotWorld world = new RobotWorld(3, 1, 3, 9, 1);
        Words.start(world, 0, 0, 255);
        Words.start(world, 1, 0, FOR_EVER);
        world.tick();
        return world;
    }

    private static void failedStaysFailed() {
        CHECK.about("Promise 7", "BAD: it is not NEW");
        RobotWorld world = withFailed();
        CHECK.same("start", world.startRobot(0), RobotWorld.BAD);
        CHECK.no("load", world.load(0, 0));
        CHECK.same("the other runs alone", world.tick(), 1);
        CHECK.same("and again", world.tick(), 1);
        CHECK.same("FAILED still", world.robotState(0), Words.FAILED);
    }

    private static void failedHasItsTurn() {
        CHECK.about("Promise 8", "A TICK: the number that ran");
        RobotWorld world = new RobotWorld(3, 1, 3, 9, 1);
        for (int x = 0; x < 3; x++) {
            Words.start(world, x, 0, Words.set(1, 1), 255);
        }
        int[] due = {0, 1, 2, 0, 1, 2, -1};
        for (int i = 0; i < due.length; i++) {
            CHECK.same("tick " + i, world.tick(), due[i]);
            CHECK.same("now", world.now(), i + 1);
        }
    }

    private static void failedKeepsWhatItHad() {
        CHECK.about("FAILED", "FAILED (PLACE and all else stay)");
        RobotWorld world = failing(255);
        world.runTicks(5);
        CHECK.same("its square", world.at(1, 1), 257);
        CHECK.same("numbers in its box", world.reg(0, Words.MAILS), 2);
        CHECK.same("load", world.reg(0, Words.LOAD), 1);
        CHECK.same("taken by it", world.spawn(1, 1), RobotWorld.TAKEN);
        CHECK.no("no wall on it", world.setWall(1, 1, true));
        CHECK.same("killed with its load", world.kill(0), 1);
        CHECK.same("its items", world.at(1, 1), 2);
    }
}
