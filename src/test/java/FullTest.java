/** Empty and full: programs, numbers of robots, squares, loads, boxes, and ticks in which none runs. */
public final class FullTest {
    private static final int NONE = RobotWorld.NONE;
    private static final int TAKE = Words.word(Words.TAKE, 1, 0);
    private static final int LAY = Words.word(Words.LAY, 1, 0);
    private static final int END = Words.word(Words.END, 0, 0);
    private static final int[] FOR_EVER = {Words.word(Words.JUMP, 0, 0, 0)};
    private static final Check CHECK = new Check();

    public static void main(String[] args) {
        emptyProgram();
        fullProgram();
        allNumbersInUse();
        leastFreeNumber();
        robotComesWithNothing();
        squareWithNinetyNine();
        wallTakesItems();
        killOnFullSquare();
        killWithEmptyLoad();
        takeFromEmptySquare();
        takeWithFullLoad();
        layOfEmptyLoad();
        layOnFullSquare();
        sendToFullBox();
        sendToNone();
        sendToOneThatTakesNone();
        sendToOneThatSleeps();
        sendToOneThatWaits();
        receiveFromEmptyBox();
        receiveInOrder();
        waitingCountsEachTime();
        nobodyReady();
        doneDoesNoMore();
        newRunsWhenStarted();
        clockOfEmptyTicks();
        initEmptiesAll();
        CHECK.end("FullTest");
    }

    private static RobotWorld single(int longest, int mails) {
        return new RobotWorld(1, 1, 1, longest, mails);
    }

    private static void emptyProgram() {
        CHECK.about("Terms", "a PROGRAM of words (length 0 .. longest");
        RobotWorld world = single(1, 1);
        world.spawn(0, 0);
        CHECK.same("no words", world.reg(0, Words.LENGTH), 0);
        CHECK.same("it may start", world.startRobot(0), 1);
        CHECK.same("its turn", world.tick(), 0);
        CHECK.same("there is no word to do", world.robotState(0), Words.FAILED);
        CHECK.same("place", world.reg(0, Words.PLACE), 0);
        CHECK.same("words done", world.reg(0, Words.WORDS_DONE), 0);
    }

    private static void fullProgram() {
        CHECK.about("Promise 6", "(not if it is as long as it may be)");
        int[] lengths = {1, 2, 99, 100};
        for (int longest : lengths) {
            RobotWorld world = single(longest, 1);
            world.spawn(0, 0);
            for (int i = 0; i < longest; i++) {
                CHECK.yes("word " + i + " of " + longest, world.load(0, Words.set(i & 7, 300 + i)));
            }
            for (int i = 0; i < 3; i++) {
                CHECK.no("too long for " + longest, world.load(0, Words.set(0, -1)));
                CHECK.same("length", world.reg(0, Words.LENGTH), longest);
            }
            world.startRobot(0);
            CHECK.same("all words are done, then none is there", world.runTicks(200), longest + 1);
            CHECK.same("words done", world.reg(0, Words.WORDS_DONE), longest);
            CHECK.same("the last word was done", world.reg(0, longest - 1 & 7), 299 + longest);
            CHECK.same("the first word was done", world.reg(0, 0), 300 + (longest - 1) / 8 * 8);
        }
    }

    private static void allNumbersInUse() {
        CHECK.about("Promise 5", "FULL.");
        for (int most = 1; most <= 8; most++) {
            RobotWorld world = new RobotWorld(9, 1, most, 1, 1);
            for (int number = 0; number < most; number++) {
                CHECK.same("there is room", world.spawn(number, 0), number);
            }
            CHECK.same("most " + most, world.spawn(8, 0), RobotWorld.FULL);
            CHECK.same("none came", world.at(8, 0), 0);
            CHECK.same("full still", world.spawn(8, 0), RobotWorld.FULL);
            world.kill(most - 1);
            CHECK.same("room again", world.spawn(8, 0), most - 1);
            CHECK.same("full again", world.spawn(most - 1, 0), RobotWorld.FULL);
        }
        RobotWorld ended = new RobotWorld(3, 1, 2, 1, 1);
        Words.start(ended, 0, 0, END);
        Words.start(ended, 1, 0);
        ended.runTicks(4);
        CHECK.same("DONE and FAILED ones are there", ended.spawn(2, 0), RobotWorld.FULL);
    }

    private static void leastFreeNumber() {
        CHECK.about("Promise 5", "A NEW ROBOT: its number, the least that is free.");
        for (int free = 0; free < 8; free++) {
            RobotWorld world = new RobotWorld(9, 1, 8, 1, 1);
            for (int number = 0; number < 8; number++) {
                CHECK.same("in order", world.spawn(number, 0), number);
            }
            world.kill(7);
            world.kill(free);
            CHECK.same("least free", world.spawn(8, 0), free);
            CHECK.same("it is there", world.at(8, 0), 256 * (free + 1));
            CHECK.same("NEW", world.robotState(free), Words.NEW);
        }
    }

    private static void robotComesWithNothing() {
        CHECK.about("Terms", "eight REGISTERS (at first 0), a PLACE in its program (at first 0)");
        RobotWorld world = new RobotWorld(1, 1, 1, 20, 2);
        Words.putItems(world, 0, 0, 1);
        Words.start(world, 0, 0, Words.word(Words.SEND, 0, 1), Words.set(2, 2), Words.set(3, 3),
                Words.set(4, 4), Words.set(5, 5), Words.set(6, 6), Words.set(7, 7), TAKE,
                Words.word(Words.SLEEP, 7, 0));
        world.runTicks(9);
        for (int r = 0; r <= 13; r++) {
            CHECK.no("the first has something in " + r, world.reg(0, r) == 0);
        }
        world.kill(0);
        CHECK.same("the second has its number", world.spawn(0, 0), 0);
        for (int r = 0; r <= 13; r++) {
            CHECK.same("the second has nothing in " + r, world.reg(0, r), 0);
        }
        CHECK.same("its item lies there", world.at(0, 0), 257);
    }

    private static void squareWithNinetyNine() {
        CHECK.about("Promise 4", "An ITEM more: whether. Not: outside, a WALL, or 99.");
        RobotWorld world = new RobotWorld(2, 1, 1, 1, 1);
        for (int i = 1; i <= 99; i++) {
            CHECK.yes("item " + i, world.putItem(1, 0));
            CHECK.same("items", world.at(1, 0), i);
        }
        for (int i = 0; i < 3; i++) {
            CHECK.no("item 100", world.putItem(1, 0));
            CHECK.same("99 stay", world.at(1, 0), 99);
        }
        CHECK.yes("another square", world.putItem(0, 0));
        world.setWall(0, 0, true);
        CHECK.no("a wall", world.putItem(0, 0));
        CHECK.same("a wall still", world.at(0, 0), -1);
        world.spawn(1, 0);
        CHECK.no("item 100 beneath a robot", world.putItem(1, 0));
        CHECK.same("99 and the robot", world.at(1, 0), 99 + 256);
    }

    private static void wallTakesItems() {
        CHECK.about("Promise 3", "A WALL comes (its ITEMS go), or goes: whether.");
        int[] counts = {0, 1, 99};
        for (int items : counts) {
            RobotWorld world = new RobotWorld(2, 1, 1, 1, 1);
            Words.putItems(world, 0, 0, items);
            Words.putItems(world, 1, 0, 1);
            CHECK.yes("a wall comes", world.setWall(0, 0, true));
            CHECK.same("a wall", world.at(0, 0), -1);
            CHECK.yes("a wall comes where one is", world.setWall(0, 0, true));
            CHECK.same("a wall still", world.at(0, 0), -1);
            CHECK.yes("it goes", world.setWall(0, 0, false));
            CHECK.same("its items are gone", world.at(0, 0), 0);
            CHECK.yes("there is room for items", world.putItem(0, 0));
            CHECK.yes("it goes where none is", world.setWall(0, 0, false));
            CHECK.same("no wall came, so the item stays", world.at(0, 0), 1);
            CHECK.same("the other square", world.at(1, 0), 1);
        }
    }

    /** A robot with so many items in its load and 7 in register 1, at the word, on so many items. */
    private static RobotWorld carrying(int load, int items, int word) {
        RobotWorld world = new RobotWorld(2, 1, 1, 20, 1);
        Words.putItems(world, 1, 0, load);
        Words.make(world, 1, 0);
        for (int i = 0; i < load; i++) {
            world.load(0, TAKE);
        }
        world.load(0, Words.set(1, 7));
        world.load(0, word);
        world.startRobot(0);
        world.runTicks(load + 1);
        Words.putItems(world, 1, 0, items);
        return world;
    }

    /** The same, and the word is done. */
    private static RobotWorld handled(int load, int items, int word) {
        RobotWorld world = carrying(load, items, word);
        CHECK.same("its turn", world.tick(), 0);
        CHECK.same("place", world.reg(0, Words.PLACE), load + 2);
        CHECK.same("READY", world.robotState(0), Words.READY);
        return world;
    }

    private static void shows(String what, RobotWorld world, int answer, int load, int items) {
        CHECK.same(what + ", R", world.reg(0, 1), answer);
        CHECK.same(what + ", load", world.reg(0, Words.LOAD), load);
        CHECK.same(what + ", items", world.at(1, 0), 256 + items);
        CHECK.same(what + ", the square beside", world.at(0, 0), 0);
    }

    private static void killOnFullSquare() {
        CHECK.about("Promise 10", "its LOAD comes to its square (99 there at most, what is more is "
                + "lost): how many ITEMS it had.");
        int[][] cases = {{1, 0, 1}, {9, 0, 9}, {9, 89, 98}, {9, 90, 99}, {9, 91, 99}, {9, 98, 99},
            {9, 99, 99}, {1, 98, 99}, {1, 99, 99}, {0, 99, 99}};
        for (int[] one : cases) {
            RobotWorld world = carrying(one[0], one[1], TAKE);
            String what = one[0] + " to " + one[1];
            CHECK.same(what + ", before", world.at(1, 0), one[1] + 256);
            CHECK.same(what, world.kill(0), one[0]);
            CHECK.same(what + ", there", world.at(1, 0), one[2]);
            CHECK.same(what + ", room for more", world.putItem(1, 0) ? 1 : 0, one[2] < 99 ? 1 : 0);
        }
    }

    private static void killWithEmptyLoad() {
        CHECK.about("Promise 10", "A ROBOT goes");
        RobotWorld world = carrying(0, 5, TAKE);
        CHECK.same("none was carried", world.kill(0), 0);
        CHECK.same("items there", world.at(1, 0), 5);
        CHECK.same("state", world.robotState(0), Words.ABSENT);
        CHECK.same("it runs no more", world.runTicks(5), 0);
        RobotWorld fresh = single(1, 1);
        fresh.spawn(0, 0);
        CHECK.same("a NEW one", fresh.kill(0), 0);
        CHECK.same("the square is free", fresh.spawn(0, 0), 0);
    }

    private static void takeFromEmptySquare() {
        CHECK.about("Word 15", "0, if there is none");
        for (int load = 0; load <= 8; load++) {
            shows("none", handled(load, 0, TAKE), 0, load, 0);
            shows("the last one", handled(load, 1, TAKE), 1, load + 1, 0);
        }
    }

    private static void takeWithFullLoad() {
        CHECK.about("Word 15", "or the LOAD is 9");
        int[] counts = {1, 2, 99};
        for (int items : counts) {
            shows("with 9", handled(9, items, TAKE), 0, 9, items);
            shows("with 8", handled(8, items, TAKE), 1, 9, items - 1);
        }
        shows("with 9 where none is", handled(9, 0, TAKE), 0, 9, 0);
    }

    private static void layOfEmptyLoad() {
        CHECK.about("Word 16", "0 if it has none");
        int[] counts = {0, 1, 98};
        for (int items : counts) {
            shows("with none", handled(0, items, LAY), 0, 0, items);
            shows("with one", handled(1, items, LAY), 1, 0, items + 1);
        }
        shows("with none where 99 are", handled(0, 99, LAY), 0, 0, 99);
    }

    private static void layOnFullSquare() {
        CHECK.about("Word 16", "or there are 99");
        for (int load = 1; load <= 9; load++) {
            shows("on 99", handled(load, 99, LAY), 0, load, 99);
            shows("on 98", handled(load, 98, LAY), 1, load - 1, 99);
        }
    }

    /** Robot 0 sends the numbers 1, 2, 3 and so on to robot 1, counts in 3, and stops when refused. */
    private static int[] sender() {
        return new int[] {Words.set(4, 1), Words.word(Words.ADD, 3, 4), Words.set(0, 1),
            Words.word(Words.SEND, 0, 3), Words.word(Words.JUMP_NOT_ZERO, 0, 0, 1), END};
    }

    private static void sendToFullBox() {
        CHECK.about("Word 17", "or its BOX is full");
        for (int mails = 1; mails <= 16; mails++) {
            RobotWorld world = new RobotWorld(2, 1, 2, 20, mails);
            Words.start(world, 0, 0, sender());
            Words.start(world, 1, 0, Words.word(Words.JUMP_ZERO, 7, 0, 0));
            world.runTicks(500);
            CHECK.same("it was refused", world.robotState(0), Words.DONE);
            CHECK.same("R", world.reg(0, 0), 0);
            CHECK.same("S stays", world.reg(0, 3), mails + 1);
            CHECK.same("numbers, mails " + mails, world.reg(1, Words.MAILS), mails);
            CHECK.same("the other's state", world.robotState(1), Words.READY);
        }
        fullBoxHasRoomAgain();
    }

    private static void fullBoxHasRoomAgain() {
        RobotWorld world = single(40, 2);
        int send = Words.word(Words.SEND, 0, 1);
        Words.start(world, 0, 0, Words.set(1, 11), send, Words.set(1, 12), Words.set(0, 0), send,
                Words.set(1, 13), Words.set(0, 0), send, Words.word(Words.RECEIVE, 2, 0), send,
                Words.set(0, 0), Words.word(Words.SEND, 0, 1), Words.word(Words.RECEIVE, 3, 0),
                Words.word(Words.RECEIVE, 4, 0), Words.word(Words.RECEIVE, 5, 0));
        world.runTicks(8);
        CHECK.same("the third is refused", world.reg(0, 0), 0);
        world.runTicks(2);
        CHECK.same("after one went there is room", world.reg(0, 0), 1);
        CHECK.same("full again", world.reg(0, Words.MAILS), 2);
        world.runTicks(2);
        CHECK.same("refused again", world.reg(0, 0), 0);
        world.runTicks(3);
        CHECK.same("first", world.reg(0, 2), 11);
        CHECK.same("second", world.reg(0, 3), 12);
        CHECK.same("third", world.reg(0, 4), 13);
        CHECK.same("empty then", world.robotState(0), Words.WAITING);
    }

    private static void sendToNone() {
        CHECK.about("Word 17", "0 if there is none such");
        int[] none = {-1, 1, 2, 3, 8, 256, Integer.MAX_VALUE, Integer.MIN_VALUE, 1 << 16};
        for (int number : none) {
            RobotWorld world = new RobotWorld(3, 1, 2, 40, 1);
            Words.start(world, 0, 0, Words.joined(Words.big(1, number),
                    Words.program(Words.word(Words.SEND, 1, 2))));
            world.spawn(1, 0);
            world.kill(1);
            world.runTicks(Words.BIG);
            CHECK.same("R at first", world.reg(0, 1), number);
            CHECK.same("its turn", world.tick(), 0);
            CHECK.same("sent to " + number, world.reg(0, 1), 0);
            CHECK.same("its own box", world.reg(0, Words.MAILS), 0);
            CHECK.same("place", world.reg(0, Words.PLACE), Words.BIG + 1);
        }
    }

    private static void sendToOneThatTakesNone() {
        CHECK.about("Word 17", "or it is NEW, DONE or FAILED");
        RobotWorld world = new RobotWorld(4, 1, 4, 20, 1);
        Words.make(world, 0, 0, Words.word(Words.RECEIVE, 3, 0));
        Words.start(world, 1, 0, END);
        Words.start(world, 2, 0, 255);
        world.runTicks(3);
        for (int to = 0; to < 3; to++) {
            int state = world.robotState(to);
            Words.start(world, 3, 0, Words.set(1, to), Words.word(Words.SEND, 1, 2));
            world.runTicks(2);
            CHECK.same("sent to one of state " + state, world.reg(3, 1), 0);
            CHECK.same("its box", world.reg(to, Words.MAILS), 0);
            CHECK.same("its state", world.robotState(to), state);
            world.kill(3);
        }
        world.startRobot(0);
        world.tick();
        CHECK.same("nothing was kept for the NEW one", world.robotState(0), Words.WAITING);
    }

    private static void sendToOneThatSleeps() {
        CHECK.about("Word 17", "S comes to the BOX of ROBOT number R: R becomes 1");
        RobotWorld world = new RobotWorld(2, 1, 2, 20, 1);
        Words.start(world, 0, 0, Words.set(1, 5), Words.word(Words.SLEEP, 1, 0),
                Words.word(Words.RECEIVE, 3, 0));
        world.runTicks(2);
        int send = Words.word(Words.SEND, 0, 2);
        Words.start(world, 1, 0, Words.set(2, 8), send, Words.set(0, 0), send);
        world.runTicks(2);
        CHECK.same("one ASLEEP takes it", world.reg(1, 0), 1);
        CHECK.same("its box", world.reg(0, Words.MAILS), 1);
        CHECK.same("it is not woken", world.robotState(0), Words.ASLEEP);
        CHECK.same("it sleeps on", world.reg(0, Words.SLEEP_LEFT), 3);
        world.runTicks(2);
        CHECK.same("until its box is full", world.reg(1, 0), 0);
        world.kill(1);
        CHECK.same("the last slept tick", world.tick(), NONE);
        CHECK.same("it wakes", world.tick(), 0);
        CHECK.same("the number is there", world.reg(0, 3), 8);
    }

    private static void sendToOneThatWaits() {
        CHECK.about("Word 17", "A WAITING one is READY then.");
        for (int mails = 1; mails <= 2; mails++) {
            RobotWorld world = new RobotWorld(2, 1, 2, 20, mails);
            Words.start(world, 0, 0, Words.word(Words.RECEIVE, 3, 0), END);
            world.tick();
            CHECK.same("it waits", world.robotState(0), Words.WAITING);
            Words.start(world, 1, 0, Words.set(2, -5), Words.word(Words.SEND, 1, 2), END);
            CHECK.same("the other runs", world.tick(), 1);
            CHECK.same("it waits still", world.robotState(0), Words.WAITING);
            CHECK.same("the other sends", world.tick(), 1);
            CHECK.same("sent", world.reg(1, 1), 1);
            CHECK.same("READY", world.robotState(0), Words.READY);
            CHECK.same("one number", world.reg(0, Words.MAILS), 1);
            CHECK.same("its turn", world.tick(), 0);
            CHECK.same("it has it", world.reg(0, 3), -5);
            CHECK.same("box empty", world.reg(0, Words.MAILS), 0);
        }
    }

    private static void receiveFromEmptyBox() {
        CHECK.about("Word 18", "if there is none it is WAITING, and the PLACE stays");
        RobotWorld world = single(9, 1);
        Words.start(world, 0, 0, Words.set(6, 66), Words.word(Words.RECEIVE, 6, 0), END);
        world.tick();
        CHECK.same("its turn", world.tick(), 0);
        CHECK.same("WAITING", world.robotState(0), Words.WAITING);
        CHECK.same("place", world.reg(0, Words.PLACE), 1);
        CHECK.same("R stays", world.reg(0, 6), 66);
        CHECK.same("box", world.reg(0, Words.MAILS), 0);
        CHECK.same("none runs", world.runTicks(100), 0);
        CHECK.same("WAITING still", world.robotState(0), Words.WAITING);
        CHECK.same("words done", world.reg(0, Words.WORDS_DONE), 2);
    }

    private static void receiveInOrder() {
        CHECK.about("Word 18", "R becomes the number that came to its BOX first, which goes");
        for (int mails = 1; mails <= 16; mails++) {
            RobotWorld world = new RobotWorld(2, 1, 2, 20, mails);
            Words.start(world, 0, 0, sender());
            Words.make(world, 1, 0, Words.set(1, 150), Words.word(Words.SLEEP, 1, 0),
                    Words.word(Words.RECEIVE, 5, 0), Words.word(Words.JUMP, 0, 0, 2));
            world.startRobot(1);
            world.runTicks(154);
            for (int due = 1; due <= mails; due++) {
                CHECK.same("left before", world.reg(1, Words.MAILS), mails - due + 1);
                CHECK.same("its turn", world.tick(), 1);
                CHECK.same("number " + due + " of " + mails, world.reg(1, 5), due);
                CHECK.same("back to the word", world.tick(), 1);
            }
            world.tick();
            CHECK.same("none left", world.robotState(1), Words.WAITING);
            CHECK.same("the last stays in R", world.reg(1, 5), mails);
        }
    }

    private static void waitingCountsEachTime() {
        CHECK.about("Promise 14", "12 words that it has done (18 each time, also those that end WAITING)");
        RobotWorld world = new RobotWorld(2, 1, 2, 20, 1);
        Words.start(world, 0, 0, Words.word(Words.RECEIVE, 3, 0), Words.word(Words.JUMP, 0, 0, 0));
        world.tick();
        CHECK.same("once, WAITING", world.reg(0, Words.WORDS_DONE), 1);
        Words.start(world, 1, 0, Words.word(Words.SEND, 1, 2), END);
        world.runTicks(3);
        CHECK.same("twice", world.reg(0, Words.WORDS_DONE), 2);
        world.runTicks(2);
        CHECK.same("the jump and once more, WAITING", world.reg(0, Words.WORDS_DONE), 4);
        CHECK.same("WAITING", world.robotState(0), Words.WAITING);
        world.runTicks(9);
        CHECK.same("not while it waits", world.reg(0, Words.WORDS_DONE), 4);
    }

    /** One robot of each state but READY; an ASLEEP one sleeps long. */
    private static RobotWorld noneReady() {
        RobotWorld world = new RobotWorld(5, 1, 5, 9, 1);
        Words.make(world, 0, 0, FOR_EVER);
        Words.start(world, 1, 0, Words.set(1, 30000), Words.word(Words.SLEEP, 1, 0));
        Words.start(world, 2, 0, Words.word(Words.RECEIVE, 0, 0));
        Words.start(world, 3, 0, END);
        Words.start(world, 4, 0, 255);
        world.runTicks(5);
        for (int id = 0; id < 5; id++) {
            int[] states = {Words.NEW, Words.ASLEEP, Words.WAITING, Words.DONE, Words.FAILED};
            CHECK.same("state of " + id, world.robotState(id), states[id]);
        }
        return world;
    }

    private static void nobodyReady() {
        CHECK.about("Promise 8", "A TICK: the number that ran; NONE.");
        CHECK.same("no robots", new RobotWorld(1, 1, 1, 1, 1).tick(), NONE);
        CHECK.same("none READY", noneReady().tick(), NONE);
        CHECK.same("none READY in many", noneReady().runTicks(10000), 0);
        RobotWorld world = noneReady();
        world.startRobot(0);
        CHECK.same("the only one", world.tick(), 0);
        CHECK.same("the only one again", world.tick(), 0);
        world.kill(0);
        CHECK.same("none again", world.tick(), NONE);
    }

    private static void doneDoesNoMore() {
        CHECK.about("Word 0", "0: DONE.");
        RobotWorld world = single(3, 1);
        Words.start(world, 0, 0, END, Words.set(1, 1));
        CHECK.same("its turn", world.tick(), 0);
        CHECK.same("DONE", world.robotState(0), Words.DONE);
        CHECK.same("words done", world.reg(0, Words.WORDS_DONE), 1);
        CHECK.same("no turn more", world.runTicks(5), 0);
        CHECK.same("DONE still", world.robotState(0), Words.DONE);
        CHECK.same("the next word is not done", world.reg(0, 1), 0);
        CHECK.same("it is there still", world.at(0, 0), 256);
    }

    private static void newRunsWhenStarted() {
        CHECK.about("Promise 7", "A NEW ROBOT is READY: 1.");
        RobotWorld world = single(3, 1);
        Words.make(world, 0, 0, FOR_EVER);
        CHECK.same("NEW", world.robotState(0), Words.NEW);
        CHECK.same("a NEW one does not run", world.runTicks(5), 0);
        CHECK.yes("a NEW one takes words", world.load(0, END));
        CHECK.same("start", world.startRobot(0), 1);
        CHECK.same("READY", world.robotState(0), Words.READY);
        CHECK.same("it runs", world.tick(), 0);
    }

    private static void clockOfEmptyTicks() {
        CHECK.about("Terms", "then the CLOCK is one more (also if there was none)");
        RobotWorld empty = new RobotWorld(1, 1, 1, 1, 1);
        empty.tick();
        CHECK.same("no robots", empty.now(), 1);
        RobotWorld world = noneReady();
        world.tick();
        CHECK.same("none READY", world.now(), 6);
        world.runTicks(10000);
        CHECK.same("none READY in many", world.now(), 10006);
        CHECK.same("ticks without one are slept too", world.reg(1, Words.SLEEP_LEFT), 30000 - 10001);
    }

    private static void initEmptiesAll() {
        CHECK.about("Promise 2", "All as at first.");
        RobotWorld world = new RobotWorld(3, 2, 3, 4, 2);
        Words.putItems(world, 0, 0, 99);
        world.setWall(1, 0, true);
        Words.start(world, 0, 0, Words.word(Words.TAKE, 1, 0), Words.word(Words.SEND, 0, 1),
                Words.word(Words.SLEEP, 1, 0), END);
        Words.start(world, 2, 0, FOR_EVER);
        Words.start(world, 0, 1, Words.word(Words.RECEIVE, 0, 0));
        world.runTicks(8);
        world.setClock(-1);
        CHECK.same("way round the wall", world.pathLength(0, 0, 2, 0), 4);
        world.init();
        CHECK.alike("all is shown as at first", Twins.shown(world),
                Twins.shown(new RobotWorld(3, 2, 3, 4, 2)));
        CHECK.same("way over the wall that was", world.pathLength(0, 0, 2, 0), 2);
        for (int x = 0; x < 3; x++) {
            CHECK.same("numbers are free", Words.start(world, x, 0, FOR_EVER), x);
        }
        CHECK.same("the turn is at its first", world.tick(), 0);
        CHECK.yes("there is room for items", world.putItem(0, 0));
    }
}
