/** A robot that is killed in each of its states, and what the next one of its number finds. */
public final class KilledTest {
    private static final int LONGEST = 12;
    private static final int TICKS_ON = 12;
    private static final int JUMP_BACK = Words.word(Words.JUMP, 0, 0, 0);
    /** Takes an item into its load, and sends itself a 7. */
    private static final int[] BEGINNING = {Words.set(1, 7), Words.word(Words.TAKE, 2, 0),
        Words.word(Words.NUMBER, 3, 0), Words.word(Words.SEND, 3, 1)};
    /** Sleeps three ticks, takes an item, and waits for a number that does not come. */
    private static final int[] NEXT_PROGRAM = {Words.set(1, 3), Words.word(Words.SLEEP, 1, 0),
        Words.word(Words.TAKE, 2, 0), Words.word(Words.RECEIVE, 3, 0)};
    private static final Check CHECK = new Check();

    public static void main(String[] args) {
        for (int state = Words.NEW; state <= Words.FAILED; state++) {
            nothingIsLeft(state);
            noTickBringsItBack(state);
            nextOneIsNew(state);
            nextOneHasItsOwnProgram(state);
            nextOneRunsAsIfTheFirstHadNeverBeen(state);
        }
        mailForOneThatWaited();
        mailThatHadCome();
        nextOneSleepsItsOwnTicks();
        turnGoesOnBehindItsNumber();
        loadOfBoth();
        wallWhereItWas();
        wayIsFreeWhereItWas();
        numberIsFreeAgain();
        CHECK.end("KilledTest");
    }

    private static int[] endingIn(int state) {
        return switch (state) {
            case Words.ASLEEP -> Words.program(Words.set(4, 5), Words.word(Words.SLEEP, 4, 0));
            case Words.WAITING -> Words.program(Words.word(Words.RECEIVE, 5, 0),
                    Words.word(Words.RECEIVE, 5, 0));
            case Words.DONE -> Words.program(Words.word(Words.END, 0, 0));
            case Words.FAILED -> Words.program(255);
            default -> Words.program(Words.set(6, 9));
        };
    }

    /** Robot 0 in that state on (1, 0), with two items there in all. */
    private static RobotWorld withOneIn(int state) {
        RobotWorld world = new RobotWorld(3, 1, 2, LONGEST, 3);
        Words.putItems(world, 1, 0, 2);
        int[] ending = endingIn(state);
        int[] program = Words.joined(BEGINNING, ending);
        if (state == Words.NEW) {
            Words.make(world, 1, 0, program);
        } else {
            Words.start(world, 1, 0, program);
            world.runTicks(program.length);
        }
        CHECK.same("the state it is killed in", world.robotState(0), state);
        CHECK.same("its load then", world.reg(0, Words.LOAD), state == Words.NEW ? 0 : 1);
        CHECK.same("its box then", world.reg(0, Words.MAILS),
                state == Words.NEW || state == Words.WAITING ? 0 : 1);
        return world;
    }

    private static RobotWorld withOneKilledIn(int state) {
        RobotWorld world = withOneIn(state);
        CHECK.same("kill, state " + state, world.kill(0), state == Words.NEW ? 0 : 1);
        return world;
    }

    private static void allRegistersZero(String what, RobotWorld world) {
        for (int r = -1; r <= Words.SLEEP_LEFT + 1; r++) {
            CHECK.same(what + ", reg " + r, world.reg(0, r), 0);
        }
    }

    private static void nothingIsLeft(int state) {
        CHECK.about("Promise 10", "A ROBOT goes");
        RobotWorld world = withOneKilledIn(state);
        CHECK.same("its load on its square", world.at(1, 0), 2);
        CHECK.about("Promise 11", "x of a ROBOT; NONE.");
        CHECK.same("x", world.robotX(0), RobotWorld.NONE);
        CHECK.about("Promise 12", "y of a ROBOT; NONE.");
        CHECK.same("y", world.robotY(0), RobotWorld.NONE);
        CHECK.about("Terms", "a STATE: 0 there is none");
        CHECK.same("state", world.robotState(0), Words.ABSENT);
        CHECK.about("Promise 14", "A REGISTER (0 without one)");
        allRegistersZero("killed in state " + state, world);
        CHECK.about("Promise 10", "BAD: there is none.");
        CHECK.same("kill again", world.kill(0), RobotWorld.BAD);
        CHECK.same("its load is not laid down twice", world.at(1, 0), 2);
        CHECK.about("Promise 7", "BAD: it is not NEW, or there is none.");
        CHECK.same("start", world.startRobot(0), RobotWorld.BAD);
        CHECK.about("Promise 6", "A word more of a NEW ROBOT'S program: whether");
        CHECK.no("load", world.load(0, 1));
    }

    private static void noTickBringsItBack(int state) {
        CHECK.about("Terms", "those ASLEEP whose ticks are over become READY");
        RobotWorld world = withOneKilledIn(state);
        int clock = world.now();
        for (int i = 0; i < TICKS_ON; i++) {
            CHECK.same("tick " + i, world.tick(), RobotWorld.NONE);
            CHECK.same("state " + i, world.robotState(0), Words.ABSENT);
        }
        CHECK.same("now", world.now(), clock + TICKS_ON);
    }

    private static void nextOneIsNew(int state) {
        CHECK.about("Promise 5", "A NEW ROBOT: its number, the least that is free.");
        RobotWorld world = withOneKilledIn(state);
        CHECK.same("the number again", world.spawn(2, 0), 0);
        CHECK.same("its state", world.robotState(0), Words.NEW);
        CHECK.same("its x", world.robotX(0), 2);
        CHECK.same("its square", world.at(2, 0), 256);
        CHECK.same("the other's square", world.at(1, 0), 2);
        CHECK.about("Terms", "eight REGISTERS (at first 0), a PLACE in its program (at first 0)");
        allRegistersZero("the next after state " + state, world);
        CHECK.about("Terms", "those ASLEEP whose ticks are over become READY");
        CHECK.same("ticks pass", world.runTicks(TICKS_ON), 0);
        CHECK.same("NEW still", world.robotState(0), Words.NEW);
    }

    private static void nextOneHasItsOwnProgram(int state) {
        CHECK.about("Promise 6", "(not if it is as long as it may be)");
        RobotWorld world = withOneKilledIn(state);
        world.spawn(2, 0);
        for (int i = 0; i < LONGEST; i++) {
            CHECK.yes("word " + i, world.load(0, Words.set(0, i)));
            CHECK.same("length", world.reg(0, Words.LENGTH), i + 1);
        }
        CHECK.no("one too many", world.load(0, Words.set(0, LONGEST)));
        CHECK.about("FAILED", "the PLACE is not in the program");
        RobotWorld empty = withOneKilledIn(state);
        empty.spawn(2, 0);
        empty.startRobot(0);
        CHECK.same("the first one's words are gone", empty.tick(), 0);
        CHECK.same("no word to do", empty.robotState(0), Words.FAILED);
    }

    private static void nextOneRunsAsIfTheFirstHadNeverBeen(int state) {
        CHECK.about("Promise 5", "A NEW ROBOT");
        RobotWorld world = withOneKilledIn(state);
        RobotWorld fresh = new RobotWorld(3, 1, 2, LONGEST, 3);
        Words.putItems(fresh, 1, 0, 2);
        fresh.setClock(world.now());
        Words.start(world, 1, 0, NEXT_PROGRAM);
        Words.start(fresh, 1, 0, NEXT_PROGRAM);
        for (int i = 0; i < 9; i++) {
            CHECK.alike("the next after state " + state + ", tick " + i,
                    Twins.shown(world), Twins.shown(fresh));
            CHECK.same("tick " + i, world.tick(), fresh.tick());
        }
        CHECK.same("it waits", world.robotState(0), Words.WAITING);
    }

    /** Robot 1 sends a 44 to number 0 in each fourth tick in which it runs, and keeps the answer. */
    private static int senderOf(RobotWorld world, int x) {
        return Words.start(world, x, 0, Words.set(2, 44), Words.set(1, 0),
                Words.word(Words.SEND, 1, 2), JUMP_BACK);
    }

    private static void mailForOneThatWaited() {
        CHECK.about("Word 17", "0 if there is none such");
        RobotWorld world = withOneIn(Words.WAITING);
        int sender = senderOf(world, 2);
        world.kill(0);
        world.runTicks(3);
        CHECK.same("to one that is gone", world.reg(sender, 1), 0);
        CHECK.about("Word 17", "or it is NEW, DONE or FAILED");
        CHECK.same("the number again", world.spawn(0, 0), 0);
        world.load(0, Words.word(Words.RECEIVE, 6, 0));
        world.runTicks(4);
        CHECK.same("to a NEW one", world.reg(sender, 1), 0);
        CHECK.same("its box", world.reg(0, Words.MAILS), 0);
        CHECK.same("it does not become READY", world.robotState(0), Words.NEW);
        CHECK.about("Word 17", "A WAITING one is READY then.");
        world.startRobot(0);
        CHECK.same("it runs at once", world.tick(), 0);
        CHECK.same("and waits itself", world.robotState(0), Words.WAITING);
        world.runTicks(4);
        CHECK.same("sent", world.reg(sender, 1), 1);
        CHECK.same("READY", world.robotState(0), Words.READY);
        CHECK.same("it runs", world.tick(), 0);
        CHECK.same("the number that came", world.reg(0, 6), 44);
    }

    private static void mailThatHadCome() {
        CHECK.about("Word 18", "if there is none it is WAITING, and the PLACE stays");
        RobotWorld world = withOneIn(Words.WAITING);
        int sender = senderOf(world, 2);
        world.runTicks(3);
        CHECK.same("READY, with a number", world.robotState(0), Words.READY);
        CHECK.same("its box", world.reg(0, Words.MAILS), 1);
        world.kill(sender);
        world.kill(0);
        Words.start(world, 0, 0, Words.word(Words.RECEIVE, 6, 0));
        CHECK.same("the next one's box", world.reg(0, Words.MAILS), 0);
        CHECK.same("it asks for a number", world.tick(), 0);
        CHECK.same("there is none", world.robotState(0), Words.WAITING);
        CHECK.same("its register", world.reg(0, 6), 0);
    }

    private static void nextOneSleepsItsOwnTicks() {
        CHECK.about("Word 19", "if R is above 0 it is ASLEEP for the next R ticks.");
        RobotWorld world = withOneIn(Words.ASLEEP);
        CHECK.same("the first one's ticks", world.reg(0, Words.SLEEP_LEFT), 5);
        world.kill(0);
        Words.start(world, 1, 0, Words.set(1, 2), Words.word(Words.SLEEP, 1, 0), JUMP_BACK);
        CHECK.same("none of the first one's ticks", world.reg(0, Words.SLEEP_LEFT), 0);
        int[] due = {0, 0, RobotWorld.NONE, RobotWorld.NONE, 0, 0, 0, RobotWorld.NONE};
        int[] left = {0, 2, 1, 0, 0, 0, 2, 1};
        for (int i = 0; i < due.length; i++) {
            CHECK.same("tick " + i, world.tick(), due[i]);
            CHECK.same("ticks left " + i, world.reg(0, Words.SLEEP_LEFT), left[i]);
        }
    }

    private static void turnGoesOnBehindItsNumber() {
        CHECK.about("Terms", "then of READY ones the next one behind the number that ran last");
        for (int gone = 0; gone < 3; gone++) {
            RobotWorld world = new RobotWorld(4, 1, 3, 1, 1);
            for (int x = 0; x < 3; x++) {
                Words.start(world, x, 0, JUMP_BACK);
            }
            world.runTicks(gone + 1);
            world.kill(gone);
            CHECK.same("the number again", Words.start(world, 3, 0, JUMP_BACK), gone);
            for (int i = 1; i <= 6; i++) {
                CHECK.same("behind " + gone + ", tick " + i, world.tick(), (gone + i) % 3);
            }
        }
    }

    private static void loadOfBoth() {
        CHECK.about("Promise 10", "its LOAD comes to its square (99 there at most, what is more is "
                + "lost): how many ITEMS it had.");
        RobotWorld world = new RobotWorld(1, 1, 1, 20, 1);
        Words.putItems(world, 0, 0, 9);
        int[] takes = new int[9];
        java.util.Arrays.fill(takes, Words.word(Words.TAKE, 2, 0));
        Words.start(world, 0, 0, takes);
        world.runTicks(9);
        Words.putItems(world, 0, 0, 95);
        CHECK.same("it had", world.kill(0), 9);
        CHECK.same("its square", world.at(0, 0), 99);
        Words.start(world, 0, 0, takes);
        CHECK.same("the next one's load", world.reg(0, Words.LOAD), 0);
        CHECK.same("its square, and it", world.at(0, 0), 256 + 99);
        world.runTicks(3);
        CHECK.same("the next one had", world.kill(0), 3);
        CHECK.same("its square at last", world.at(0, 0), 99);
    }

    private static void wallWhereItWas() {
        CHECK.about("Promise 3", "A WALL comes (its ITEMS go), or goes: whether.");
        RobotWorld world = withOneIn(Words.ASLEEP);
        CHECK.no("while it is there", world.setWall(1, 0, true));
        world.kill(0);
        CHECK.yes("when it is gone", world.setWall(1, 0, true));
        CHECK.same("the square", world.at(1, 0), -1);
        CHECK.about("Promise 5", "BAD: outside, or a WALL");
        CHECK.same("none comes there", world.spawn(1, 0), RobotWorld.BAD);
        CHECK.same("no number was used", world.robotState(0), Words.ABSENT);
        CHECK.yes("the wall goes", world.setWall(1, 0, false));
        CHECK.same("the next one", world.spawn(1, 0), 0);
        CHECK.same("without items", world.at(1, 0), 256);
    }

    private static void wayIsFreeWhereItWas() {
        CHECK.about("Word 13", "or 2, if a ROBOT is.");
        for (int state = Words.NEW; state <= Words.FAILED; state++) {
            RobotWorld world = withOneIn(state);
            int walker = Words.start(world, 2, 0, Words.set(1, 3), Words.word(Words.GO, 1, 2),
                    JUMP_BACK);
            world.runTicks(6);
            CHECK.same("against one in state " + state, world.reg(walker, 2), 2);
            CHECK.same("it stays", world.robotX(walker), 2);
            world.kill(0);
            world.runTicks(3);
            CHECK.same("where it was", world.reg(walker, 2), 1);
            CHECK.same("it went", world.robotX(walker), 1);
            CHECK.same("on the items", world.at(1, 0), 2 * 256 + 2);
        }
    }

    private static void numberIsFreeAgain() {
        CHECK.about("Promise 5", "FULL.");
        RobotWorld world = withOneIn(Words.WAITING);
        CHECK.same("the other number", world.spawn(2, 0), 1);
        CHECK.same("no third", world.spawn(0, 0), RobotWorld.FULL);
        world.kill(0);
        CHECK.same("the free one", world.spawn(0, 0), 0);
        CHECK.same("no third again", world.spawn(1, 0), RobotWorld.FULL);
        world.kill(1);
        CHECK.same("the other free one", world.spawn(1, 0), 1);
        CHECK.same("taken", world.spawn(1, 0), RobotWorld.TAKEN);
    }
}
