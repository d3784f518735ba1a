/** Too small and too large: each number that a call or a word may be given, at and behind its bounds. */
public final class BoundsTest {
    private static final int LEAST = Integer.MIN_VALUE;
    private static final int GREATEST = Integer.MAX_VALUE;
    private static final int NONE = RobotWorld.NONE;
    private static final int[] FOR_EVER = {Words.word(Words.JUMP, 0, 0, 0)};
    private static final Check CHECK = new Check();

    /** The sides of most worlds here: unlike, so that no x passes for a y. */
    private static final int W = 4;
    private static final int H = 3;

    /** Beside each edge, far off, and such that a row's number times 4 runs over to a row inside. */
    private static final int[][] OUTSIDE = {
        {-1, 0}, {-1, 1}, {4, 0}, {4, 2}, {0, -1}, {3, -1}, {0, 3}, {3, 3}, {-1, -1}, {4, 3}, {4, -1},
        {-1, 3}, {32, 0}, {0, 32}, {LEAST, 0}, {0, LEAST}, {GREATEST, 0}, {0, GREATEST},
        {LEAST, LEAST}, {GREATEST, GREATEST}, {0, 1 << 30}, {1, 1 << 30}, {0, -(1 << 30)},
        {1 << 30, 1 << 30}, {12, 0}, {-4, 1}, {8, -1},
    };

    /** No numbers of robots where most is 3. */
    private static final int[] NO_NUMBERS = {-1, 3, 4, 7, 8, 9, -3, LEAST, GREATEST};

    public static void main(String[] args) {
        sidesOfWorld();
        northWest();
        mostRobots();
        longestProgram();
        boxSize();
        eachNumberForItself();
        ticksFromNoneToMost();
        ticksTooFewOrTooMany();
        wallsOutside();
        itemsOutside();
        robotsOutside();
        squaresOutside();
        waysOutside();
        waysFromNoStepToMost();
        wordAskingForWayOutside();
        goingAndLookingOutside();
        loadWithoutNumber();
        startWithoutNumber();
        killWithoutNumber();
        whereWithoutNumber();
        stateWithoutNumber();
        registersWithoutRobot();
        registersFromFirstToLast();
        othersThanRegisters();
        lastOfAllCalls();
        CHECK.end("BoundsTest");
    }

    private static void sidesOfWorld() {
        CHECK.about("Terms", "The WORLD has w times h squares (1 .. 32 each)");
        int[] given = {LEAST, -32, -1, 0, 1, 2, 31, 32, 33, 64, GREATEST};
        int[] due = {1, 1, 1, 1, 1, 2, 31, 32, 32, 32, 32};
        for (int i = 0; i < given.length; i++) {
            int last = due[i] - 1;
            RobotWorld wide = new RobotWorld(given[i], 2, 1, 1, 1);
            CHECK.same("east edge, w " + given[i], wide.at(last, 1), 0);
            CHECK.same("behind it, w " + given[i], wide.at(last + 1, 1), -2);
            CHECK.yes("an item at it, w " + given[i], wide.putItem(last, 1));
            CHECK.same("way to it, w " + given[i], wide.pathLength(0, 0, last, 1), last + 1);
            CHECK.same("south edge, w " + given[i], wide.at(0, 2), -2);
            RobotWorld high = new RobotWorld(2, given[i], 1, 1, 1);
            CHECK.same("south edge, h " + given[i], high.at(1, last), 0);
            CHECK.same("behind it, h " + given[i], high.at(1, last + 1), -2);
            CHECK.yes("an item at it, h " + given[i], high.putItem(1, last));
            CHECK.same("way to it, h " + given[i], high.pathLength(0, 0, 1, last), last + 1);
            CHECK.same("east edge, h " + given[i], high.at(2, 0), -2);
        }
    }

    private static void northWest() {
        CHECK.about("Terms", "(0, 0) being at the north-west");
        RobotWorld world = new RobotWorld(W, H, 1, 20, 1);
        Words.start(world, 1, 1, Words.set(0, 0), Words.word(Words.GO, 0, 1), Words.set(0, 3),
                Words.word(Words.GO, 0, 1), Words.word(Words.GO, 0, 2), Words.set(0, 0),
                Words.word(Words.GO, 0, 3));
        world.runTicks(7);
        CHECK.same("x at the north-west", world.robotX(0), 0);
        CHECK.same("y at the north-west", world.robotY(0), 0);
        CHECK.same("nothing further west", world.reg(0, 2), 0);
        CHECK.same("nothing further north", world.reg(0, 3), 0);
    }

    private static void mostRobots() {
        CHECK.about("Terms", "ROBOTS have numbers 0 .. most - 1 (most is 1 .. 8).");
        int[] given = {LEAST, -1, 0, 1, 2, 7, 8, 9, 16, GREATEST};
        int[] due = {1, 1, 1, 1, 2, 7, 8, 8, 8, 8};
        for (int i = 0; i < given.length; i++) {
            RobotWorld world = new RobotWorld(9, 1, given[i], 1, 1);
            CHECK.same("state of the last, most " + given[i], world.robotState(due[i] - 1), 0);
            CHECK.same("state behind it, most " + given[i], world.robotState(due[i]), NONE);
            for (int number = 0; number < due[i]; number++) {
                CHECK.same("most " + given[i], world.spawn(number, 0), number);
            }
            CHECK.same("one too many, most " + given[i], world.spawn(8, 0), RobotWorld.FULL);
            CHECK.same("the last is there, most " + given[i], world.robotX(due[i] - 1), due[i] - 1);
            CHECK.same("none behind it, most " + given[i], world.robotX(due[i]), NONE);
        }
    }

    private static void longestProgram() {
        CHECK.about("Terms", "a PROGRAM of words (length 0 .. longest, that being 1 .. 100)");
        int[] given = {LEAST, -1, 0, 1, 2, 99, 100, 101, 200, GREATEST};
        int[] due = {1, 1, 1, 1, 2, 99, 100, 100, 100, 100};
        for (int i = 0; i < given.length; i++) {
            RobotWorld world = new RobotWorld(1, 1, 1, given[i], 1);
            world.spawn(0, 0);
            CHECK.same("length at first", world.reg(0, Words.LENGTH), 0);
            for (int word = 1; word <= due[i]; word++) {
                CHECK.yes("word " + word + ", longest " + given[i], world.load(0, FOR_EVER[0]));
            }
            CHECK.no("one too many, longest " + given[i], world.load(0, FOR_EVER[0]));
            CHECK.same("length, longest " + given[i], world.reg(0, Words.LENGTH), due[i]);
        }
    }

    private static void boxSize() {
        CHECK.about("Terms", "a BOX of numbers that were sent to it (size mails at most, "
                + "that being 1 .. 16)");
        int[] given = {LEAST, -1, 0, 1, 2, 15, 16, 17, 100, GREATEST};
        int[] due = {1, 1, 1, 1, 2, 15, 16, 16, 16, 16};
        for (int i = 0; i < given.length; i++) {
            RobotWorld world = new RobotWorld(1, 1, 1, 9, given[i]);
            Words.start(world, 0, 0, Words.word(Words.SEND, 1, 2),
                    Words.word(Words.JUMP_ZERO, 1, 0, 4), Words.set(1, 0),
                    Words.word(Words.JUMP, 0, 0, 0), Words.word(Words.END, 0, 0));
            world.runTicks(4 * due[i] + 1);
            CHECK.same("numbers in it, mails " + given[i], world.reg(0, Words.MAILS), due[i]);
            CHECK.same("one too many, mails " + given[i], world.reg(0, 1), 0);
            world.runTicks(2);
            CHECK.same("it went on, mails " + given[i], world.robotState(0), Words.DONE);
            CHECK.same("numbers still, mails " + given[i], world.reg(0, Words.MAILS), due[i]);
        }
    }

    private static void eachNumberForItself() {
        CHECK.about("Promise 1", "Each number is brought to its bounds. An empty world, CLOCK 0.");
        int[] extremes = {LEAST, GREATEST};
        for (int i = 0; i < 32; i++) {
            int[] bits = {i & 1, i >> 1 & 1, i >> 2 & 1, i >> 3 & 1, i >> 4 & 1};
            RobotWorld world = new RobotWorld(extremes[bits[0]], extremes[bits[1]], extremes[bits[2]],
                    extremes[bits[3]], extremes[bits[4]]);
            int w = bits[0] == 0 ? 1 : 32;
            int h = bits[1] == 0 ? 1 : 32;
            CHECK.same("now", world.now(), 0);
            CHECK.same("last square", world.at(w - 1, h - 1), 0);
            CHECK.same("behind w", world.at(w, h - 1), -2);
            CHECK.same("behind h", world.at(w - 1, h), -2);
            CHECK.same("last robot", world.robotState(bits[2] == 0 ? 0 : 7), Words.ABSENT);
            CHECK.same("behind most", world.robotState(bits[2] == 0 ? 1 : 8), NONE);
            world.spawn(w - 1, h - 1);
            int words = 0;
            while (words <= 100 && world.load(0, Words.word(Words.SEND, 0, 1))) {
                words++;
            }
            CHECK.same("longest", words, bits[3] == 0 ? 1 : 100);
        }
    }

    private static void ticksFromNoneToMost() {
        CHECK.about("Promise 9", "TICKS, n (0 .. 10000): in how many of them one ran.");
        int[] good = {0, 1, 2, 9999, 10000};
        for (int n : good) {
            RobotWorld empty = new RobotWorld(1, 1, 1, 9, 1);
            CHECK.same("none runs in " + n, empty.runTicks(n), 0);
            CHECK.same("now after " + n, empty.now(), n);
            RobotWorld busy = new RobotWorld(1, 1, 1, 9, 1);
            Words.start(busy, 0, 0, FOR_EVER);
            CHECK.same("one runs in " + n, busy.runTicks(n), n);
            CHECK.same("words in " + n, busy.reg(0, Words.WORDS_DONE), n);
            CHECK.same("now after " + n + " of one that runs", busy.now(), n);
        }
        RobotWorld half = new RobotWorld(1, 1, 1, 9, 1);
        Words.start(half, 0, 0, Words.set(1, 1), Words.word(Words.SLEEP, 1, 0),
                Words.word(Words.JUMP, 0, 0, 1));
        CHECK.same("one that sleeps each third tick", half.runTicks(10000), 6667);
    }

    private static void ticksTooFewOrTooMany() {
        CHECK.about("Promise 9", "BAD.");
        int[] bad = {-1, -2, -10000, LEAST, 10001, 10002, 20000, GREATEST};
        for (int n : bad) {
            RobotWorld world = new RobotWorld(1, 1, 1, 9, 1);
            Words.start(world, 0, 0, FOR_EVER);
            CHECK.same("ticks " + n, world.runTicks(n), RobotWorld.BAD);
            CHECK.same("now after " + n, world.now(), 0);
            CHECK.same("words after " + n, world.reg(0, Words.WORDS_DONE), 0);
        }
    }

    private static RobotWorld world() {
        return new RobotWorld(W, H, 3, 20, 2);
    }

    private static void wallsOutside() {
        CHECK.about("Promise 3", "Not: outside");
        RobotWorld world = world();
        for (int[] square : OUTSIDE) {
            CHECK.no("wall on " + square[0] + " " + square[1], world.setWall(square[0], square[1], true));
            CHECK.no("none on " + square[0] + " " + square[1], world.setWall(square[0], square[1], false));
        }
        for (int i = 0; i < W * H; i++) {
            CHECK.same("no wall came inside", world.at(i % W, i / W), 0);
        }
        for (int i = 0; i < W * H; i++) {
            CHECK.yes("inside", world.setWall(i % W, i / W, true));
            CHECK.same("the wall", world.at(i % W, i / W), -1);
            CHECK.yes("inside again", world.setWall(i % W, i / W, false));
            CHECK.same("the wall is gone", world.at(i % W, i / W), 0);
        }
    }

    private static void itemsOutside() {
        CHECK.about("Promise 4", "Not: outside");
        RobotWorld world = world();
        for (int[] square : OUTSIDE) {
            CHECK.no("item on " + square[0] + " " + square[1], world.putItem(square[0], square[1]));
        }
        for (int i = 0; i < W * H; i++) {
            CHECK.same("no item came inside", world.at(i % W, i / W), 0);
        }
        for (int i = 0; i < W * H; i++) {
            CHECK.yes("inside", world.putItem(i % W, i / W));
            CHECK.same("the item", world.at(i % W, i / W), 1);
        }
    }

    private static void robotsOutside() {
        CHECK.about("Promise 5", "BAD: outside");
        RobotWorld world = world();
        for (int[] square : OUTSIDE) {
            CHECK.same("robot on " + square[0] + " " + square[1],
                    world.spawn(square[0], square[1]), RobotWorld.BAD);
            CHECK.same("none came", world.robotState(0), Words.ABSENT);
        }
        for (int i = 0; i < W * H; i++) {
            CHECK.same("inside", world.spawn(i % W, i / W), 0);
            CHECK.same("x", world.robotX(0), i % W);
            CHECK.same("y", world.robotY(0), i / W);
            world.kill(0);
        }
    }

    private static void squaresOutside() {
        CHECK.about("Promise 15", "A square: -2 outside");
        RobotWorld world = world();
        for (int i = 0; i < W * H; i++) {
            world.setWall(i % W, i / W, true);
        }
        for (int[] square : OUTSIDE) {
            CHECK.same("at " + square[0] + " " + square[1], world.at(square[0], square[1]), -2);
        }
        for (int i = 0; i < W * H; i++) {
            CHECK.same("inside", world.at(i % W, i / W), -1);
        }
    }

    private static void waysOutside() {
        CHECK.about("Promise 16", "NONE: there is none, or one of the squares is outside or a WALL.");
        RobotWorld world = world();
        for (int[] square : OUTSIDE) {
            int x = square[0];
            int y = square[1];
            CHECK.same("from " + x + " " + y, world.pathLength(x, y, 0, 0), NONE);
            CHECK.same("to " + x + " " + y, world.pathLength(0, 0, x, y), NONE);
            CHECK.same("on " + x + " " + y, world.pathLength(x, y, x, y), NONE);
        }
        for (int i = 0; i < W * H; i++) {
            CHECK.same("from inside", world.pathLength(i % W, i / W, 3, 2), 3 - i % W + 2 - i / W);
            CHECK.same("to inside", world.pathLength(3, 2, i % W, i / W), 3 - i % W + 2 - i / W);
        }
        world.setWall(1, 1, true);
        CHECK.same("from a wall", world.pathLength(1, 1, 0, 0), NONE);
        CHECK.same("to a wall", world.pathLength(0, 0, 1, 1), NONE);
        CHECK.same("on a wall", world.pathLength(1, 1, 1, 1), NONE);
        world.setWall(0, 1, true);
        world.setWall(1, 0, true);
        CHECK.same("out of a closed corner", world.pathLength(0, 0, 3, 2), NONE);
        CHECK.same("into a closed corner", world.pathLength(3, 2, 0, 0), NONE);
        CHECK.same("within a closed corner", world.pathLength(0, 0, 0, 0), 0);
        RobotWorld single = new RobotWorld(1, 1, 1, 1, 1);
        CHECK.same("the only square", single.pathLength(0, 0, 0, 0), 0);
    }

    private static void waysFromNoStepToMost() {
        CHECK.about("Promise 16", "How many steps a shortest WAY has");
        RobotWorld open = new RobotWorld(32, 32, 1, 1, 1);
        CHECK.same("none", open.pathLength(31, 31, 31, 31), 0);
        CHECK.same("one", open.pathLength(31, 31, 31, 30), 1);
        CHECK.same("from corner to corner", open.pathLength(0, 0, 31, 31), 62);
        CHECK.same("and back", open.pathLength(31, 31, 0, 0), 62);
        CHECK.same("the other corners", open.pathLength(31, 0, 0, 31), 62);
        RobotWorld row = new RobotWorld(32, 1, 1, 1, 1);
        CHECK.same("along a row", row.pathLength(0, 0, 31, 0), 31);
        RobotWorld column = new RobotWorld(1, 32, 1, 1, 1);
        CHECK.same("along a column", column.pathLength(0, 31, 0, 0), 31);
        RobotWorld snake = new RobotWorld(32, 31, 1, 1, 1);
        for (int y = 1; y < 31; y += 2) {
            for (int x = 0; x < 31; x++) {
                snake.setWall(y % 4 == 1 ? x : x + 1, y, true);
            }
        }
        CHECK.same("through all rows", snake.pathLength(0, 0, 0, 30), 15 * 33 + 31);
    }

    private static void wordAskingForWayOutside() {
        CHECK.about("Word 20", "4 if it is there, -1 if there is no way");
        for (int[] square : OUTSIDE) {
            CHECK.same("to " + square[0] + " " + square[1], wayFrom(1, 1, square[0], square[1]), -1);
        }
        for (int i = 0; i < W * H; i++) {
            CHECK.same("there", wayFrom(i % W, i / W, i % W, i / W), 4);
        }
        CHECK.same("a wall", wayFrom(1, 1, 2, 2), -1);
        CHECK.same("a closed corner", wayFrom(1, 1, 3, 2), -1);
        CHECK.same("beside", wayFrom(1, 1, 1, 0), 0);
    }

    /** Of a robot in a world whose south-east corner is closed in, if nobody stands on its walls. */
    private static int wayFrom(int x0, int y0, int x1, int y1) {
        RobotWorld world = new RobotWorld(W, H, 3, 40, 2);
        int id = Words.start(world, x0, y0, Words.joined(Words.big(3, x1), Words.big(5, y1),
                Words.program(Words.word(Words.WAY, 3, 5))));
        world.setWall(2, 2, true);
        world.setWall(3, 1, true);
        world.runTicks(2 * Words.BIG + 1);
        CHECK.same("S stays", world.reg(id, 5), y1);
        CHECK.same("words done", world.reg(id, Words.WORDS_DONE), 2 * Words.BIG + 1);
        return world.reg(id, 3);
    }

    private static void goingAndLookingOutside() {
        CHECK.about("Word 13", "or 0, and it stays, if a WALL or nothing is there");
        int[][] edges = {{1, 0, 0}, {W - 1, 1, 1}, {1, H - 1, 2}, {0, 1, 3}};
        for (int[] edge : edges) {
            RobotWorld world = atEdge(Words.GO, edge);
            CHECK.same("nothing in direction " + edge[2], world.reg(0, 4), 0);
            CHECK.same("x stays", world.robotX(0), edge[0]);
            CHECK.same("y stays", world.robotY(0), edge[1]);
        }
        CHECK.about("Word 14", "S becomes what is there in that DIRECTION, as at() says.");
        for (int[] edge : edges) {
            CHECK.same("nothing in direction " + edge[2], atEdge(Words.LOOK, edge).reg(0, 4), -2);
        }
    }

    private static RobotWorld atEdge(int op, int[] edge) {
        RobotWorld world = world();
        Words.start(world, edge[0], edge[1], Words.set(3, edge[2]), Words.set(4, 77),
                Words.word(op, 3, 4));
        world.runTicks(3);
        CHECK.same("place", world.reg(0, Words.PLACE), 3);
        CHECK.same("its square", world.at(edge[0], edge[1]), 256);
        return world;
    }

    /** Three NEW robots of one word each, so that a wrong number would find one. */
    private static RobotWorld threeRobots() {
        RobotWorld world = world();
        for (int x = 0; x < 3; x++) {
            Words.make(world, x, 1, FOR_EVER);
        }
        return world;
    }

    private static void loadWithoutNumber() {
        CHECK.about("Promise 6", "A word more of a NEW ROBOT'S program: whether");
        RobotWorld world = threeRobots();
        for (int id : NO_NUMBERS) {
            CHECK.no("load " + id, world.load(id, 0));
        }
        for (int id = 0; id < 3; id++) {
            CHECK.same("no word came", world.reg(id, Words.LENGTH), 1);
            CHECK.yes("a word of " + id, world.load(id, 0));
            CHECK.same("a word came", world.reg(id, Words.LENGTH), 2);
        }
    }

    private static void startWithoutNumber() {
        CHECK.about("Promise 7", "BAD: it is not NEW, or there is none.");
        RobotWorld world = threeRobots();
        for (int id : NO_NUMBERS) {
            CHECK.same("start " + id, world.startRobot(id), RobotWorld.BAD);
        }
        for (int id = 0; id < 3; id++) {
            CHECK.same("NEW still", world.robotState(id), Words.NEW);
            CHECK.same("start " + id, world.startRobot(id), 1);
            CHECK.same("READY", world.robotState(id), Words.READY);
            CHECK.same("start again " + id, world.startRobot(id), RobotWorld.BAD);
        }
        CHECK.same("none in an empty world", world().startRobot(0), RobotWorld.BAD);
    }

    private static void killWithoutNumber() {
        CHECK.about("Promise 10", "BAD: there is none.");
        RobotWorld world = threeRobots();
        for (int id : NO_NUMBERS) {
            CHECK.same("kill " + id, world.kill(id), RobotWorld.BAD);
        }
        for (int id = 0; id < 3; id++) {
            CHECK.same("there still", world.robotState(id), Words.NEW);
            CHECK.same("kill " + id, world.kill(id), 0);
            CHECK.same("gone", world.robotState(id), Words.ABSENT);
            CHECK.same("its square", world.at(id, 1), 0);
            CHECK.same("kill again " + id, world.kill(id), RobotWorld.BAD);
        }
        CHECK.same("none in an empty world", world().kill(0), RobotWorld.BAD);
    }

    private static void whereWithoutNumber() {
        CHECK.about("Promise 11", "x of a ROBOT; NONE.");
        RobotWorld world = threeRobots();
        for (int id : NO_NUMBERS) {
            CHECK.same("x of " + id, world.robotX(id), NONE);
        }
        CHECK.same("x of the first", world.robotX(0), 0);
        CHECK.same("x of the last", world.robotX(2), 2);
        CHECK.about("Promise 12", "y of a ROBOT; NONE.");
        for (int id : NO_NUMBERS) {
            CHECK.same("y of " + id, world.robotY(id), NONE);
        }
        CHECK.same("y of the first", world.robotY(0), 1);
        CHECK.same("y of the last", world.robotY(2), 1);
        world.kill(2);
        CHECK.same("y of one that is gone", world.robotY(2), NONE);
        CHECK.about("Promise 11", "x of a ROBOT; NONE.");
        CHECK.same("x of one that is gone", world.robotX(2), NONE);
    }

    private static void stateWithoutNumber() {
        CHECK.about("Promise 13", "Its STATE; NONE: no such number.");
        RobotWorld world = threeRobots();
        for (int id : NO_NUMBERS) {
            CHECK.same("state of " + id, world.robotState(id), NONE);
        }
        world.kill(2);
        CHECK.about("Terms", "a STATE: 0 there is none");
        CHECK.same("of a number without a robot", world.robotState(2), 0);
        CHECK.same("of a robot", world.robotState(1), 1);
    }

    private static void registersWithoutRobot() {
        CHECK.about("Promise 14", "A REGISTER (0 without one)");
        RobotWorld world = world();
        Words.start(world, 0, 0, Words.set(0, 5), Words.set(7, 6));
        world.runTicks(2);
        for (int r = 0; r <= 13; r++) {
            for (int id : NO_NUMBERS) {
                CHECK.same("reg " + r + " of " + id, world.reg(id, r), 0);
            }
            CHECK.same("reg " + r + " of a number without a robot", world.reg(1, r), 0);
        }
        world.kill(0);
        for (int r = 0; r <= 13; r++) {
            CHECK.same("reg " + r + " of one that is gone", world.reg(0, r), 0);
        }
    }

    private static void registersFromFirstToLast() {
        CHECK.about("Terms", "eight REGISTERS (at first 0)");
        for (int register = 0; register < 8; register++) {
            RobotWorld world = world();
            Words.start(world, 0, 0, Words.set(register, -9));
            for (int r = 0; r < 8; r++) {
                CHECK.same("at first " + r, world.reg(0, r), 0);
            }
            world.tick();
            for (int r = 0; r < 8; r++) {
                CHECK.same("then " + r, world.reg(0, r), r == register ? -9 : 0);
            }
        }
    }

    /** A robot that has each number that reg tells, all unlike each other. */
    private static void othersThanRegisters() {
        CHECK.about("Promise 14", "0 for others.");
        RobotWorld world = new RobotWorld(1, 1, 1, 40, 9);
        Words.putItems(world, 0, 0, 2);
        int send = Words.word(Words.SEND, 0, 1);
        int take = Words.word(Words.TAKE, 2, 0);
        Words.start(world, 0, 0, send, Words.set(0, 0), send, Words.set(0, 0), send, take, take,
                Words.set(3, 30), Words.word(Words.JUMP, 0, 0, 11), 0, 0,
                Words.word(Words.SLEEP, 3, 0), 0, 0);
        world.runTicks(11);
        int[] others = {14, 15, 16, 21, 100, 255, 256, 264, -1, -2, -8, LEAST, LEAST + 8, GREATEST};
        for (int r : others) {
            CHECK.same("reg " + r, world.reg(0, r), 0);
        }
        CHECK.about("Promise 14", "from 8 on: 8 its PLACE, 9 its LOAD, 10 numbers in its BOX, 11 words "
                + "of its program, 12 words that it has done");
        int[] due = {12, 2, 3, 14, 10, 29};
        for (int r = 8; r <= 13; r++) {
            CHECK.same("reg " + r, world.reg(0, r), due[r - 8]);
        }
    }

    private static void lastOfAllCalls() {
        CHECK.about("What it is", "An object is used for at most 512 calls after it has been made");
        RobotWorld world = new RobotWorld(1, 1, 1, 9, 1);
        Words.start(world, 0, 0, FOR_EVER);
        for (int call = 4; call <= 510; call++) {
            world.runTicks(10000);
        }
        CHECK.same("call 511", world.reg(0, Words.WORDS_DONE), 5070000);
        CHECK.same("call 512", world.now(), 5070000);
    }
}
