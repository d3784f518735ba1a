/** Where something comes round: numbers, the clock, turns, directions, sleep, and n with its sign. */
public final class WrapTest {
    private static final int LEAST = Integer.MIN_VALUE;
    private static final int GREATEST = Integer.MAX_VALUE;
    private static final int NONE = RobotWorld.NONE;
    private static final int[] FOR_EVER = {Words.word(Words.JUMP, 0, 0, 0)};
    private static final Check CHECK = new Check();

    public static void main(String[] args) {
        numbersRunOver();
        divisionTowardsZero();
        belowWithSign();
        sameOrNot();
        clockRunsOver();
        wordTellsClock();
        clockIsSet();
        sleepOverSetClock();
        sleepWhileClockRunsOver();
        sleepEndsBeforeTheTurn();
        sleepOfNothing();
        sleepOfMost();
        sleepIsTold();
        firstTurn();
        turnsRoundAbout();
        turnsOverThoseNotReady();
        turnBehindOneThatIsGone();
        emptyTickKeepsTurn();
        numberWithSign();
        placeOneMore();
        jumpsByNumber();
        jumpsByRegister();
        directionsByLowestBits();
        robotInTheWay();
        wayOverRobots();
        leastDirection();
        squareTellsRobot();
        whereWithOneRegister();
        CHECK.end("WrapTest");
    }

    /** Robot 0 alone, with a in register 1 and b in 2, having done the op on them. */
    private static RobotWorld reckoned(int op, int a, int b) {
        RobotWorld world = new RobotWorld(1, 1, 1, 40, 1);
        Words.start(world, 0, 0, Words.joined(Words.big(1, a), Words.big(2, b),
                Words.program(Words.word(op, 1, 2))));
        world.runTicks(2 * Words.BIG);
        CHECK.same("R before", world.reg(0, 1), a);
        CHECK.same("S before", world.reg(0, 2), b);
        CHECK.same("its turn", world.tick(), 0);
        CHECK.same("S stays", world.reg(0, 2), b);
        CHECK.same("place", world.reg(0, Words.PLACE), 2 * Words.BIG + 1);
        CHECK.same("READY", world.robotState(0), Words.READY);
        return world;
    }

    private static void reckon(String what, int op, int a, int b, int due) {
        CHECK.same(a + " " + what + " " + b, reckoned(op, a, b).reg(0, 1), due);
    }

    private static void numbersRunOver() {
        CHECK.about("Terms", "numbers run over");
        reckon("and", Words.ADD, GREATEST, 1, LEAST);
        reckon("and", Words.ADD, GREATEST, GREATEST, -2);
        reckon("and", Words.ADD, LEAST, -1, GREATEST);
        reckon("and", Words.ADD, LEAST, LEAST, 0);
        reckon("less", Words.LESS, LEAST, 1, GREATEST);
        reckon("less", Words.LESS, GREATEST, -1, LEAST);
        reckon("less", Words.LESS, 0, LEAST, LEAST);
        reckon("less", Words.LESS, -1, LEAST, GREATEST);
        reckon("times", Words.TIMES, GREATEST, 2, -2);
        reckon("times", Words.TIMES, GREATEST, GREATEST, 1);
        reckon("times", Words.TIMES, LEAST, -1, LEAST);
        reckon("times", Words.TIMES, 65536, 65536, 0);
        reckon("times", Words.TIMES, 46341, 46341, -2147479015);
        reckon("/", Words.DIVIDE, LEAST, -1, LEAST);
        reckon("rest", Words.REST, LEAST, -1, 0);
        reckon("becomes", Words.COPY, GREATEST, LEAST, LEAST);
    }

    private static void divisionTowardsZero() {
        CHECK.about("Words 6 and 7", "R / S towards 0; 7 the rest.");
        int[][] cases = {{7, 2, 3, 1}, {-7, 2, -3, -1}, {7, -2, -3, 1}, {-7, -2, 3, -1}, {1, 2, 0, 1},
            {-1, 2, 0, -1}, {1, -2, 0, 1}, {0, 5, 0, 0}, {0, -5, 0, 0}, {6, 3, 2, 0}, {-6, 3, -2, 0},
            {LEAST, GREATEST, -1, -1}, {GREATEST, LEAST, 0, GREATEST}, {LEAST, LEAST, 1, 0},
            {LEAST, 1, LEAST, 0}, {GREATEST, -1, -GREATEST, 0}, {LEAST, 2, -(1 << 30), 0}};
        for (int[] one : cases) {
            reckon("/", Words.DIVIDE, one[0], one[1], one[2]);
            reckon("rest", Words.REST, one[0], one[1], one[3]);
        }
    }

    private static void belowWithSign() {
        CHECK.about("Word 8", "1, if R is below S, else 0.");
        int[][] cases = {{0, 0, 0}, {0, 1, 1}, {1, 0, 0}, {-1, 0, 1}, {0, -1, 0}, {LEAST, GREATEST, 1},
            {GREATEST, LEAST, 0}, {LEAST, 0, 1}, {0, LEAST, 0}, {LEAST, 1, 1}, {1, LEAST, 0},
            {GREATEST, -1, 0}, {-2, GREATEST, 1}, {LEAST, LEAST, 0}, {GREATEST, GREATEST, 0}};
        for (int[] one : cases) {
            reckon("below", Words.BELOW, one[0], one[1], one[2]);
        }
    }

    private static void sameOrNot() {
        CHECK.about("Word 9", "if they are the same.");
        int[][] cases = {{0, 0, 1}, {0, 1, 0}, {-1, -1, 1}, {1, -1, 0}, {LEAST, LEAST, 1},
            {LEAST, GREATEST, 0}, {LEAST, 0, 0}, {65536, 0, 0}, {1000, 1000, 1}, {256, 0, 0}};
        for (int[] one : cases) {
            reckon("same", Words.SAME, one[0], one[1], one[2]);
        }
    }

    private static void clockRunsOver() {
        CHECK.about("Terms", "The CLOCK is a number of 32 bits that runs over.");
        RobotWorld world = new RobotWorld(1, 1, 1, 1, 1);
        world.setClock(GREATEST);
        CHECK.same("greatest", world.now(), GREATEST);
        world.tick();
        CHECK.same("one more", world.now(), LEAST);
        world.tick();
        CHECK.same("two more", world.now(), LEAST + 1);
        world.setClock(GREATEST - 3);
        CHECK.same("many ticks", world.runTicks(10000), 0);
        CHECK.same("many more", world.now(), LEAST + 9996);
        world.setClock(-1);
        world.tick();
        CHECK.same("from -1", world.now(), 0);
    }

    private static void wordTellsClock() {
        CHECK.about("Word 23", "the CLOCK.");
        int[] clocks = {0, 1, -1, LEAST, GREATEST, 70000};
        for (int clock : clocks) {
            RobotWorld world = new RobotWorld(1, 1, 1, 2, 1);
            Words.start(world, 0, 0, Words.word(Words.CLOCK, 1, 0), Words.word(Words.CLOCK, 2, 0));
            world.setClock(clock);
            world.runTicks(2);
            CHECK.same("before the tick's end", world.reg(0, 1), clock);
            CHECK.same("a tick later", world.reg(0, 2), clock + 1);
        }
    }

    private static void clockIsSet() {
        CHECK.about("Promise 18", "The CLOCK becomes this");
        RobotWorld world = new RobotWorld(1, 1, 1, 1, 1);
        int[] clocks = {0, 5, -5, LEAST, GREATEST, 0};
        for (int clock : clocks) {
            world.setClock(clock);
            CHECK.same("now", world.now(), clock);
        }
        CHECK.about("Promise 17", "The CLOCK.");
        CHECK.same("now", world.now(), 0);
        world.tick();
        CHECK.same("after a tick", world.now(), 1);
        CHECK.same("asking changes nothing", world.now(), 1);
    }

    /** Robot 0 has just fallen asleep for so many ticks; it tells the clock into 2 when it wakes. */
    private static RobotWorld asleep(int ticks, int clock) {
        RobotWorld world = new RobotWorld(2, 1, 2, 20, 1);
        Words.start(world, 0, 0, Words.joined(Words.big(1, ticks),
                Words.program(Words.word(Words.SLEEP, 1, 0), Words.word(Words.CLOCK, 2, 0))));
        world.setClock(clock - Words.BIG - 1);
        CHECK.same("ticks until it sleeps", world.runTicks(Words.BIG + 1), Words.BIG + 1);
        CHECK.same("clock", world.now(), clock);
        return world;
    }

    private static void sleepOverSetClock() {
        CHECK.about("Promise 18", "(those ASLEEP sleep on as long)");
        int[] clocks = {0, 3, 1000, -1000, GREATEST, LEAST, GREATEST - 2};
        for (int clock : clocks) {
            for (int slept = 0; slept <= 4; slept++) {
                RobotWorld world = asleep(4, 20);
                world.runTicks(slept);
                world.setClock(clock);
                CHECK.same("left", world.reg(0, Words.SLEEP_LEFT), 4 - slept);
                CHECK.same("ASLEEP", world.robotState(0), Words.ASLEEP);
                CHECK.same("none runs", world.runTicks(4 - slept), 0);
                CHECK.same("it wakes", world.tick(), 0);
                CHECK.same("the clock then", world.reg(0, 2), clock + 4 - slept);
            }
        }
    }

    private static void sleepWhileClockRunsOver() {
        CHECK.about("Word 19", "if R is above 0 it is ASLEEP for the next R ticks.");
        int[] clocks = {GREATEST, GREATEST - 1, GREATEST - 3, LEAST, -1, -2, 0};
        for (int clock : clocks) {
            for (int ticks = 1; ticks <= 4; ticks++) {
                RobotWorld world = asleep(ticks, clock);
                for (int left = ticks; left > 0; left--) {
                    CHECK.same("left", world.reg(0, Words.SLEEP_LEFT), left);
                    CHECK.same("ASLEEP", world.robotState(0), Words.ASLEEP);
                    CHECK.same("none runs", world.tick(), NONE);
                }
                CHECK.same("it wakes", world.tick(), 0);
                CHECK.same("the clock then", world.reg(0, 2), clock + ticks);
                CHECK.same("R stays", world.reg(0, 1), ticks);
            }
        }
    }

    private static void sleepEndsBeforeTheTurn() {
        CHECK.about("Terms", "those ASLEEP whose ticks are over become READY");
        RobotWorld world = asleep(1, 0);
        Words.start(world, 1, 0, FOR_EVER);
        CHECK.same("the slept tick is the other's", world.tick(), 1);
        CHECK.same("it is READY before the next turn", world.tick(), 0);
        RobotWorld two = new RobotWorld(2, 1, 2, 20, 1);
        int[] sleeper = {Words.set(1, 2), Words.word(Words.SLEEP, 1, 0), Words.word(Words.JUMP, 0, 0, 1)};
        Words.start(two, 0, 0, sleeper);
        Words.start(two, 1, 0, sleeper);
        int[] due = {0, 1, 0, 1, NONE, 0, 1, 0, 1, NONE, 0, 1};
        for (int i = 0; i < due.length; i++) {
            CHECK.same("tick " + i + " of two sleepers", two.tick(), due[i]);
        }
        RobotWorld late = asleep(2, 0);
        late.runTicks(2);
        Words.start(late, 1, 0, FOR_EVER);
        CHECK.same("the other is first", late.tick(), 1);
        CHECK.same("it is READY, though not in turn", late.robotState(0), Words.READY);
        CHECK.same("then it runs", late.tick(), 0);
    }

    private static void sleepOfNothing() {
        CHECK.about("Word 19", "if R is above 0");
        int[] none = {0, -1, -2, LEAST, LEAST + 1};
        for (int ticks : none) {
            RobotWorld world = asleep(ticks, 0);
            CHECK.same("READY", world.robotState(0), Words.READY);
            CHECK.same("left", world.reg(0, Words.SLEEP_LEFT), 0);
            CHECK.same("place", world.reg(0, Words.PLACE), Words.BIG + 1);
            CHECK.same("R stays", world.reg(0, 1), ticks);
            CHECK.same("it runs on", world.tick(), 0);
        }
    }

    private static void sleepOfMost() {
        CHECK.about("Word 19", "it is ASLEEP for the next R ticks");
        int[] clocks = {0, 1, GREATEST, LEAST};
        for (int clock : clocks) {
            RobotWorld world = asleep(GREATEST, clock);
            CHECK.same("left", world.reg(0, Words.SLEEP_LEFT), GREATEST);
            CHECK.same("none runs", world.runTicks(10000), 0);
            CHECK.same("left then", world.reg(0, Words.SLEEP_LEFT), GREATEST - 10000);
            CHECK.same("ASLEEP", world.robotState(0), Words.ASLEEP);
        }
        RobotWorld most = asleep(10000, 7);
        CHECK.same("10000 ticks", most.runTicks(10000), 0);
        CHECK.same("and one", most.tick(), 0);
    }

    private static void sleepIsTold() {
        CHECK.about("Promise 14", "13 the ticks for which it is ASLEEP still (0 if it is not)");
        RobotWorld world = asleep(2, 0);
        int[] left = {2, 1, 0};
        for (int due : left) {
            CHECK.same("left", world.reg(0, Words.SLEEP_LEFT), due);
            world.tick();
        }
        CHECK.same("READY", world.robotState(0), Words.READY);
        CHECK.same("of a READY one", world.reg(0, Words.SLEEP_LEFT), 0);
        RobotWorld fresh = new RobotWorld(1, 1, 1, 1, 1);
        fresh.spawn(0, 0);
        CHECK.same("of a NEW one", fresh.reg(0, Words.SLEEP_LEFT), 0);
        RobotWorld killed = asleep(9, 0);
        killed.kill(0);
        CHECK.same("of none", killed.reg(0, Words.SLEEP_LEFT), 0);
        killed.spawn(0, 0);
        CHECK.same("of the next one", killed.reg(0, Words.SLEEP_LEFT), 0);
        killed.runTicks(20);
        CHECK.same("nothing wakes in it", killed.robotState(0), Words.NEW);
    }

    /** So many robots that run for ever, of a world that could have as many. */
    private static RobotWorld runners(int most) {
        RobotWorld world = new RobotWorld(8, 1, most, 1, 1);
        for (int x = 0; x < most; x++) {
            Words.start(world, x, 0, FOR_EVER);
        }
        return world;
    }

    private static void firstTurn() {
        CHECK.about("Terms", "behind the number that ran last (at first that of the greatest number)");
        for (int most = 1; most <= 8; most++) {
            CHECK.same("of " + most, runners(most).tick(), 0);
            for (int first = 0; first < most; first++) {
                RobotWorld world = runners(most);
                for (int id = 0; id < first; id++) {
                    world.kill(id);
                }
                CHECK.same("the least of those there", world.tick(), first);
            }
        }
    }

    private static void turnsRoundAbout() {
        CHECK.about("Terms", "round about, does one word");
        for (int most = 1; most <= 8; most++) {
            RobotWorld world = runners(most);
            for (int i = 0; i < 3 * most; i++) {
                CHECK.same("turn " + i + " of " + most, world.tick(), i % most);
            }
            for (int id = 0; id < most; id++) {
                CHECK.same("words of " + id, world.reg(id, Words.WORDS_DONE), 3);
            }
        }
    }

    private static void turnsOverThoseNotReady() {
        CHECK.about("Terms", "then of READY ones the next one behind the number that ran last");
        RobotWorld world = new RobotWorld(8, 1, 8, 2, 1);
        for (int x = 0; x < 8; x++) {
            Words.make(world, x, 0, FOR_EVER);
        }
        world.startRobot(6);
        CHECK.same("the only one", world.tick(), 6);
        CHECK.same("round to itself", world.tick(), 6);
        world.startRobot(7);
        world.startRobot(2);
        world.startRobot(5);
        int[] due = {7, 2, 5, 6, 7, 2};
        for (int number : due) {
            CHECK.same("in turn", world.tick(), number);
        }
    }

    private static void turnBehindOneThatIsGone() {
        CHECK.about("Terms", "the next one behind the number that ran last");
        RobotWorld world = runners(4);
        world.runTicks(3);
        world.kill(2);
        CHECK.same("behind 2, which is gone", world.tick(), 3);
        world.kill(3);
        CHECK.same("behind 3, which is gone", world.tick(), 0);
        Words.start(world, 2, 0, FOR_EVER);
        CHECK.same("1 is before 2", world.tick(), 1);
        CHECK.same("2 is there again", world.tick(), 2);
        RobotWorld again = runners(2);
        again.tick();
        again.kill(0);
        Words.start(again, 0, 0, FOR_EVER);
        CHECK.same("the number ran, so the other is next", again.tick(), 1);
    }

    private static void emptyTickKeepsTurn() {
        CHECK.about("Terms", "the number that ran last");
        RobotWorld world = new RobotWorld(3, 1, 3, 2, 1);
        for (int x = 0; x < 3; x++) {
            Words.make(world, x, 0, FOR_EVER);
        }
        world.startRobot(1);
        world.tick();
        world.kill(1);
        CHECK.same("no tick for any", world.runTicks(5), 0);
        world.startRobot(0);
        world.startRobot(2);
        CHECK.same("1 is still the one that ran last", world.tick(), 2);
        CHECK.same("a FAILED one had its turn", failedThenNext(), 1);
    }

    private static int failedThenNext() {
        RobotWorld world = new RobotWorld(2, 1, 2, 2, 1);
        Words.start(world, 0, 0, 255);
        Words.start(world, 1, 0, FOR_EVER);
        CHECK.same("it fails in its turn", world.tick(), 0);
        return world.tick();
    }

    private static RobotWorld ran(int... program) {
        RobotWorld world = new RobotWorld(1, 1, 1, 100, 4);
        Words.start(world, 0, 0, program);
        world.runTicks(program.length);
        return world;
    }

    private static void numberWithSign() {
        CHECK.about("Terms", "n in 16 .. 31 with its sign");
        int[] numbers = {0, 1, -1, 255, 256, -256, 32766, 32767, -32767, -32768};
        for (int n : numbers) {
            CHECK.same("n", ran(Words.set(7, n)).reg(0, 7), n);
        }
        CHECK.same("32768 has a sign", ran(Words.set(7, 32768)).reg(0, 7), -32768);
        CHECK.same("65535 has a sign", ran(Words.set(7, 65535)).reg(0, 7), -1);
    }

    private static void placeOneMore() {
        CHECK.about("Terms", "The PLACE is one more then, where nothing else is said.");
        for (int op = 0; op <= 24; op++) {
            if (op != Words.JUMP && op != Words.JUMP_ZERO && op != Words.RECEIVE) {
                RobotWorld world = ran(Words.set(1, -1), Words.set(2, -1), Words.word(op, 0, 1, 50));
                CHECK.same("place after op " + op, world.reg(0, Words.PLACE), 3);
                CHECK.same("words after op " + op, world.reg(0, Words.WORDS_DONE), 3);
            }
        }
    }

    private static void jumpsByNumber() {
        CHECK.about("Word 10", "the PLACE becomes n.");
        int[] places = {0, 1, 2, 99, 100, -1, 32767, -32768};
        for (int place : places) {
            RobotWorld world = ran(Words.word(Words.JUMP, 0, 0, place));
            CHECK.same("place", world.reg(0, Words.PLACE), place);
            CHECK.same("READY until its next turn", world.robotState(0), Words.READY);
        }
    }

    private static void jumpsByRegister() {
        int[] values = {0, 1, -1, LEAST, GREATEST, 65536, 256};
        for (int value : values) {
            for (int n = -1; n <= 1; n++) {
                int next = Words.BIG + 1;
                CHECK.about("Word 11", "if R is 0.");
                CHECK.same("R " + value, jumped(Words.JUMP_ZERO, value, n), value == 0 ? n : next);
                CHECK.about("Word 12", "if R is not 0.");
                CHECK.same("R " + value, jumped(Words.JUMP_NOT_ZERO, value, n), value == 0 ? next : n);
            }
        }
    }

    private static int jumped(int op, int value, int n) {
        RobotWorld world = ran(Words.joined(Words.big(5, value), Words.program(Words.word(op, 5, 0, n))));
        CHECK.same("R stays", world.reg(0, 5), value);
        CHECK.same("words done", world.reg(0, Words.WORDS_DONE), Words.BIG + 1);
        return world.reg(0, Words.PLACE);
    }

    /** A robot in the middle of nine squares with 1 to 4 items round about, having done op on 3 and 4. */
    private static RobotWorld inTheMiddle(int op, int direction) {
        RobotWorld world = new RobotWorld(3, 3, 2, 20, 1);
        Words.putItems(world, 1, 0, 1);
        Words.putItems(world, 2, 1, 2);
        Words.putItems(world, 1, 2, 3);
        Words.putItems(world, 0, 1, 4);
        Words.start(world, 1, 1, Words.joined(Words.big(3, direction),
                Words.program(Words.word(op, 3, 4))));
        world.runTicks(Words.BIG + 1);
        CHECK.same("R stays", world.reg(0, 3), direction);
        return world;
    }

    private static void directionsByLowestBits() {
        int[] given = {0, 1, 2, 3, 4, 5, 6, 7, -1, -2, -3, -4, 256, LEAST, LEAST + 1, GREATEST, 65538};
        int[] due = {0, 1, 2, 3, 0, 1, 2, 3, 3, 2, 1, 0, 0, 0, 1, 3, 2};
        int[] x = {1, 2, 1, 0};
        int[] y = {0, 1, 2, 1};
        for (int i = 0; i < given.length; i++) {
            CHECK.about("Word 13", "it goes in DIRECTION R (its lowest two bits): S becomes 1");
            RobotWorld gone = inTheMiddle(Words.GO, given[i]);
            CHECK.same("S, direction " + given[i], gone.reg(0, 4), 1);
            CHECK.same("x, direction " + given[i], gone.robotX(0), x[due[i]]);
            CHECK.same("y, direction " + given[i], gone.robotY(0), y[due[i]]);
            CHECK.same("the square it left", gone.at(1, 1), 0);
            CHECK.about("Word 14", "S becomes what is there in that DIRECTION");
            RobotWorld looked = inTheMiddle(Words.LOOK, given[i]);
            CHECK.same("S, direction " + given[i], looked.reg(0, 4), due[i] + 1);
            CHECK.same("it stays", looked.at(1, 1), 256);
        }
    }

    private static void robotInTheWay() {
        CHECK.about("Word 13", "or 2, if a ROBOT is.");
        int[] x = {1, 2, 1, 0};
        int[] y = {0, 1, 2, 1};
        for (int direction = 0; direction < 4; direction++) {
            RobotWorld world = new RobotWorld(3, 3, 2, 9, 1);
            Words.start(world, 1, 1, Words.set(3, direction), Words.word(Words.GO, 3, 4),
                    Words.word(Words.LOOK, 3, 5), Words.word(Words.GO, 3, 6));
            world.spawn(x[direction], y[direction]);
            world.putItem(x[direction], y[direction]);
            world.runTicks(3);
            CHECK.same("S", world.reg(0, 4), 2);
            CHECK.same("it stays", world.at(1, 1), 256);
            CHECK.same("what it sees", world.reg(0, 5), 512 + 1);
            world.kill(1);
            world.tick();
            CHECK.same("S when it is gone", world.reg(0, 6), 1);
        }
        RobotWorld walled = new RobotWorld(2, 1, 2, 9, 1);
        walled.setWall(1, 0, true);
        Words.start(walled, 0, 0, Words.set(3, 1), Words.set(4, 7), Words.word(Words.GO, 3, 4),
                Words.word(Words.LOOK, 3, 5));
        walled.runTicks(4);
        CHECK.about("Word 13", "or 0, and it stays, if a WALL or nothing is there");
        CHECK.same("S at a wall", walled.reg(0, 4), 0);
        CHECK.same("what it sees", walled.reg(0, 5), -1);
        CHECK.same("it stays", walled.robotX(0), 0);
    }

    private static void wayOverRobots() {
        CHECK.about("Terms", "not over WALLS (ROBOTS do not matter)");
        RobotWorld world = new RobotWorld(3, 2, 3, 9, 1);
        world.spawn(1, 0);
        world.spawn(2, 0);
        CHECK.same("over a robot to a robot", world.pathLength(0, 0, 2, 0), 2);
        Words.start(world, 0, 0, Words.set(1, 2), Words.word(Words.WAY, 1, 2));
        world.runTicks(2);
        CHECK.same("first step onto a robot's square", world.reg(2, 1), 1);
        RobotWorld walled = new RobotWorld(3, 2, 3, 9, 1);
        walled.setWall(1, 0, true);
        CHECK.same("not over a wall", walled.pathLength(0, 0, 2, 0), 4);
    }

    private static void leastDirection() {
        CHECK.about("Terms", "its first step is the least DIRECTION of those with which a shortest "
                + "one begins.");
        int[][] due = {{0, 0, 0}, {3, 4, 1}, {2, 2, 1}};
        for (int i = 0; i < 9; i++) {
            CHECK.same("to " + i % 3 + " " + i / 3, step(new RobotWorld(3, 3, 1, 9, 1), i % 3, i / 3),
                    due[i / 3][i % 3]);
        }
        RobotWorld detour = new RobotWorld(3, 3, 1, 9, 1);
        detour.setWall(1, 0, true);
        CHECK.same("north is shut", step(detour, 0, 0), 3);
        RobotWorld twoWays = new RobotWorld(4, 3, 1, 9, 1);
        twoWays.setWall(2, 1, true);
        CHECK.same("two ways round, north is less", step(twoWays, 3, 1), 0);
        twoWays.setWall(2, 0, true);
        CHECK.same("one way round", step(twoWays, 3, 1), 2);
    }

    private static int step(RobotWorld world, int x, int y) {
        int id = Words.start(world, 1, 1, Words.set(1, x), Words.set(2, y), Words.word(Words.WAY, 1, 2));
        world.runTicks(3);
        int answer = world.reg(id, 1);
        world.kill(id);
        return answer;
    }

    private static void squareTellsRobot() {
        CHECK.about("Promise 15", "else its ITEMS, and 256 times a ROBOT'S number and 1.");
        RobotWorld world = new RobotWorld(8, 1, 8, 1, 1);
        for (int x = 0; x < 8; x++) {
            Words.putItems(world, x, 0, x);
            CHECK.same("items alone", world.at(x, 0), x);
            world.spawn(x, 0);
            CHECK.same("items and a robot", world.at(x, 0), x + 256 * (x + 1));
        }
    }

    private static void whereWithOneRegister() {
        CHECK.about("Word 21", "R becomes its x, S then its y.");
        RobotWorld world = new RobotWorld(32, 32, 1, 9, 1);
        Words.start(world, 31, 30, Words.word(Words.WHERE, 1, 2), Words.word(Words.WHERE, 3, 3));
        world.runTicks(2);
        CHECK.same("R", world.reg(0, 1), 31);
        CHECK.same("S", world.reg(0, 2), 30);
        CHECK.same("R and S in one", world.reg(0, 3), 30);
        CHECK.about("Word 22", "R becomes its number.");
        RobotWorld eight = new RobotWorld(8, 1, 8, 9, 1);
        for (int x = 0; x < 8; x++) {
            Words.start(eight, x, 0, Words.set(1, -1), Words.word(Words.NUMBER, 1, 0));
        }
        eight.runTicks(16);
        for (int id = 0; id < 8; id++) {
            CHECK.same("number", eight.reg(id, 1), id);
        }
        CHECK.about("Word 24", "its LOAD.");
        RobotWorld loaded = new RobotWorld(1, 1, 1, 40, 1);
        Words.putItems(loaded, 0, 0, 9);
        Words.start(loaded, 0, 0, Words.word(Words.CARRIED, 1, 0), Words.word(Words.TAKE, 2, 0),
                Words.word(Words.JUMP, 0, 0, 0));
        loaded.tick();
        CHECK.same("empty", loaded.reg(0, 1), 0);
        loaded.runTicks(27);
        CHECK.same("full", loaded.reg(0, 1), 9);
    }
}
