/** Promises 8, 9, 17 and 18, and turns, mail and sleep in them. */
public final class TickTest {
    private static final int GREATEST = Integer.MAX_VALUE;
    private static final int LEAST = Integer.MIN_VALUE;
    private static final int[] FOR_EVER = {Words.word(Words.JUMP, 0, 0, 0)};
    private static final Check CHECK = new Check();

    public static void main(String[] args) {
        robotsTakeTurns();
        turnGoesByNumberThatRanLast();
        runTicksCounts();
        runTicksRefuses();
        clockRunsOver();
        sleepLasts();
        sleepOfNothing();
        longSleep();
        setClockLeavesSleep();
        othersRunWhileOneSleeps();
        sendAndReceive();
        mailKeepsOrder();
        waitingWakes();
        sendToOneAsleep();
        sendRefused();
        sendToItself();
        CHECK.end("TickTest");
    }

    private static void robotsTakeTurns() {
        CHECK.about("Terms", "then of READY ones the next one behind the number that ran last "
                + "(at first that of the greatest number), round about, does one word");
        RobotWorld world = new RobotWorld(5, 1, 4, 9, 1);
        for (int x = 0; x < 4; x++) {
            Words.start(world, x, 0, FOR_EVER);
        }
        for (int i = 0; i < 9; i++) {
            CHECK.same("turn " + i, world.tick(), i % 4);
            CHECK.same("now " + i, world.now(), i + 1);
        }
        world.kill(1);
        CHECK.same("over the killed one", world.tick(), 2);
        CHECK.same("and on", world.tick(), 3);
        CHECK.same("and round", world.tick(), 0);
        CHECK.same("and over it again", world.tick(), 2);
        CHECK.same("each had its words", world.reg(2, Words.WORDS_DONE), 4);
    }

    private static void turnGoesByNumberThatRanLast() {
        CHECK.about("Terms", "the next one behind the number that ran last");
        RobotWorld world = new RobotWorld(5, 1, 4, 9, 1);
        for (int x = 0; x < 4; x++) {
            world.spawn(x, 0);
            world.load(x, FOR_EVER[0]);
        }
        CHECK.same("none READY", world.tick(), RobotWorld.NONE);
        CHECK.same("the clock goes on", world.now(), 1);
        world.startRobot(2);
        CHECK.same("the only one", world.tick(), 2);
        CHECK.same("the only one again", world.tick(), 2);
        world.startRobot(0);
        world.startRobot(1);
        world.startRobot(3);
        CHECK.same("the next behind", world.tick(), 3);
        CHECK.same("round about", world.tick(), 0);
        world.kill(0);
        CHECK.same("behind one that is gone", world.tick(), 1);
    }

    private static void runTicksCounts() {
        CHECK.about("Promise 9", "TICKS, n (0 .. 10000): in how many of them one ran.");
        RobotWorld world = new RobotWorld(1, 1, 1, 9, 1);
        CHECK.same("none runs", world.runTicks(5), 0);
        CHECK.same("now", world.now(), 5);
        Words.start(world, 0, 0, Words.set(0, 1), Words.set(0, 2), Words.word(Words.END, 0, 0));
        CHECK.same("no ticks", world.runTicks(0), 0);
        CHECK.same("now still", world.now(), 5);
        CHECK.same("three ran", world.runTicks(10), 3);
        CHECK.same("now then", world.now(), 15);
        world.kill(0);
        Words.start(world, 0, 0, FOR_EVER);
        CHECK.same("most ticks", world.runTicks(10000), 10000);
        CHECK.same("now at last", world.now(), 10015);
        CHECK.same("words done", world.reg(0, Words.WORDS_DONE), 10000);
    }

    private static void runTicksRefuses() {
        CHECK.about("Promise 9", "BAD.");
        RobotWorld world = new RobotWorld(1, 1, 1, 9, 1);
        Words.start(world, 0, 0, FOR_EVER);
        int[] bad = {-1, 10001, LEAST, GREATEST};
        for (int n : bad) {
            CHECK.same("ticks " + n, world.runTicks(n), RobotWorld.BAD);
        }
        CHECK.same("no tick was", world.now(), 0);
        CHECK.same("no word was", world.reg(0, Words.WORDS_DONE), 0);
    }

    private static void clockRunsOver() {
        CHECK.about("Terms", "The CLOCK is a number of 32 bits that runs over.");
        RobotWorld world = new RobotWorld(1, 1, 1, 9, 1);
        int[] clocks = {5, -5, 0, LEAST, GREATEST};
        for (int clock : clocks) {
            world.setClock(clock);
            CHECK.same("now", world.now(), clock);
        }
        world.tick();
        CHECK.same("run over", world.now(), LEAST);
        world.runTicks(3);
        CHECK.same("and on", world.now(), LEAST + 3);
    }

    private static void sleepLasts() {
        CHECK.about("Word 19", "19: if R is above 0 it is ASLEEP for the next R ticks.");
        RobotWorld world = new RobotWorld(1, 1, 1, 9, 1);
        Words.start(world, 0, 0, Words.set(1, 3), Words.word(Words.SLEEP, 1, 0), Words.set(2, 9));
        world.tick();
        CHECK.same("it runs into sleep", world.tick(), 0);
        for (int left = 3; left >= 0; left--) {
            CHECK.same("asleep", world.robotState(0), Words.ASLEEP);
            CHECK.same("ticks left", world.reg(0, Words.SLEEP_LEFT), left);
            CHECK.same("place", world.reg(0, Words.PLACE), 2);
            CHECK.same("R stays", world.reg(0, 1), 3);
            CHECK.same("tick", world.tick(), left > 0 ? RobotWorld.NONE : 0);
        }
        CHECK.same("awake", world.robotState(0), Words.READY);
        CHECK.same("its word", world.reg(0, 2), 9);
        CHECK.same("no ticks left", world.reg(0, Words.SLEEP_LEFT), 0);
        CHECK.same("words done", world.reg(0, Words.WORDS_DONE), 3);
    }

    private static void sleepOfNothing() {
        CHECK.about("Word 19", "if R is above 0");
        int[] none = {0, -1, -32768};
        for (int ticks : none) {
            RobotWorld world = new RobotWorld(1, 1, 1, 9, 1);
            Words.start(world, 0, 0, Words.set(1, ticks), Words.word(Words.SLEEP, 1, 0),
                    Words.set(2, 9));
            world.runTicks(2);
            CHECK.same("not asleep", world.robotState(0), Words.READY);
            CHECK.same("no ticks left", world.reg(0, Words.SLEEP_LEFT), 0);
            CHECK.same("place", world.reg(0, Words.PLACE), 2);
            CHECK.same("it goes on", world.tick(), 0);
        }
    }

    private static void longSleep() {
        CHECK.about("Promise 14", "13 the ticks for which it is ASLEEP still (0 if it is not)");
        RobotWorld world = new RobotWorld(1, 1, 1, 9, 1);
        Words.start(world, 0, 0, Words.set(1, 1), Words.set(2, -1), Words.set(3, -32768),
                Words.word(Words.TIMES, 3, 3), Words.word(Words.ADD, 3, 3),
                Words.word(Words.ADD, 3, 2), Words.word(Words.SLEEP, 3, 0));
        world.runTicks(7);
        CHECK.same("R", world.reg(0, 3), GREATEST);
        CHECK.same("ticks left", world.reg(0, Words.SLEEP_LEFT), GREATEST);
        CHECK.same("none ran", world.runTicks(10000), 0);
        CHECK.same("ticks left then", world.reg(0, Words.SLEEP_LEFT), GREATEST - 10000);
    }

    private static void setClockLeavesSleep() {
        CHECK.about("Promise 18", "The CLOCK becomes this (those ASLEEP sleep on as long).");
        int[] clocks = {0, 1000, -1000, GREATEST, LEAST};
        for (int clock : clocks) {
            RobotWorld world = new RobotWorld(1, 1, 1, 9, 1);
            Words.start(world, 0, 0, Words.set(1, 4), Words.word(Words.SLEEP, 1, 0),
                    Words.word(Words.CLOCK, 2, 0));
            world.runTicks(3);
            world.setClock(clock);
            CHECK.same("ticks left", world.reg(0, Words.SLEEP_LEFT), 3);
            CHECK.same("still asleep", world.runTicks(3), 0);
            CHECK.same("awake", world.tick(), 0);
            CHECK.same("the clock it saw", world.reg(0, 2), clock + 3);
        }
    }

    private static void othersRunWhileOneSleeps() {
        CHECK.about("Terms", "those ASLEEP whose ticks are over become READY");
        RobotWorld world = new RobotWorld(3, 1, 3, 9, 1);
        Words.start(world, 0, 0, Words.set(1, 2), Words.word(Words.SLEEP, 1, 0),
                Words.word(Words.JUMP, 0, 0, 0));
        Words.start(world, 1, 0, FOR_EVER);
        int[] due = {0, 1, 0, 1, 1, 0, 1, 0, 1, 0, 1, 1, 0};
        for (int i = 0; i < due.length; i++) {
            CHECK.same("tick " + i, world.tick(), due[i]);
        }
    }

    private static void sendAndReceive() {
        CHECK.about("Words 17 and 18", "S comes to the BOX of ROBOT number R: R becomes 1");
        RobotWorld world = new RobotWorld(2, 1, 2, 9, 2);
        Words.start(world, 0, 0, Words.set(1, 1), Words.set(2, -77), Words.word(Words.SEND, 1, 2),
                Words.word(Words.END, 0, 0));
        Words.start(world, 1, 0, Words.set(3, 0), Words.set(3, 0), Words.set(3, 0),
                Words.word(Words.RECEIVE, 3, 0), Words.word(Words.END, 0, 0));
        world.runTicks(6);
        CHECK.same("sent", world.reg(0, 1), 1);
        CHECK.same("S stays", world.reg(0, 2), -77);
        CHECK.same("in the box", world.reg(1, Words.MAILS), 1);
        world.runTicks(2);
        CHECK.same("received", world.reg(1, 3), -77);
        CHECK.same("out of the box", world.reg(1, Words.MAILS), 0);
        CHECK.same("place", world.reg(1, Words.PLACE), 4);
        CHECK.same("words done", world.reg(1, Words.WORDS_DONE), 4);
    }

    private static void mailKeepsOrder() {
        CHECK.about("Word 18", "18: R becomes the number that came to its BOX first, which goes");
        RobotWorld world = new RobotWorld(1, 1, 1, 100, 3);
        world.spawn(0, 0);
        int[] sent = {5, 6, 7, 8};
        for (int value : sent) {
            world.load(0, Words.set(1, value));
            world.load(0, Words.word(Words.NUMBER, 0, 0));
            world.load(0, Words.word(Words.SEND, 0, 1));
        }
        world.load(0, Words.word(Words.RECEIVE, 2, 0));
        world.load(0, Words.word(Words.NUMBER, 0, 0));
        world.load(0, Words.word(Words.SEND, 0, 1));
        for (int r = 3; r <= 6; r++) {
            world.load(0, Words.word(Words.RECEIVE, r, 0));
        }
        world.startRobot(0);
        world.runTicks(12);
        CHECK.same("the fourth finds no room", world.reg(0, 0), 0);
        CHECK.same("three are there", world.reg(0, Words.MAILS), 3);
        world.runTicks(7);
        int[] due = {1, 8, 5, 6, 7, 8, 0};
        for (int r = 0; r < due.length; r++) {
            CHECK.same("in order " + r, world.reg(0, r), due[r]);
        }
        CHECK.same("waits for more", world.robotState(0), Words.WAITING);
    }

    private static void waitingWakes() {
        CHECK.about("Word 17", "A WAITING one is READY then.");
        RobotWorld world = new RobotWorld(2, 1, 2, 9, 2);
        Words.start(world, 0, 0, Words.set(4, 6), Words.word(Words.RECEIVE, 4, 0));
        Words.start(world, 1, 0, Words.set(1, 0), Words.set(2, 44), Words.set(3, 0),
                Words.word(Words.SEND, 1, 2), Words.word(Words.END, 0, 0));
        int[] due = {0, 1, 0, 1, 1};
        for (int i = 0; i < due.length; i++) {
            CHECK.same("tick " + i, world.tick(), due[i]);
        }
        CHECK.same("waits", world.robotState(0), Words.WAITING);
        CHECK.same("place stays", world.reg(0, Words.PLACE), 1);
        CHECK.same("R stays", world.reg(0, 4), 6);
        CHECK.same("words done, the wait too", world.reg(0, Words.WORDS_DONE), 2);
        CHECK.same("it is sent", world.tick(), 1);
        CHECK.same("READY", world.robotState(0), Words.READY);
        CHECK.same("not yet received", world.reg(0, Words.MAILS), 1);
        CHECK.same("it runs again", world.tick(), 0);
        CHECK.same("received", world.reg(0, 4), 44);
        CHECK.same("words done at last", world.reg(0, Words.WORDS_DONE), 3);
        CHECK.same("place at last", world.reg(0, Words.PLACE), 2);
    }

    private static void sendToOneAsleep() {
        CHECK.about("Word 17", "17: S comes to the BOX of ROBOT number R: R becomes 1");
        RobotWorld world = new RobotWorld(2, 1, 2, 9, 2);
        Words.start(world, 0, 0, Words.set(1, 9), Words.word(Words.SLEEP, 1, 0),
                Words.word(Words.RECEIVE, 2, 0));
        Words.start(world, 1, 0, Words.set(1, 0), Words.set(2, 44), Words.word(Words.SEND, 1, 2));
        world.runTicks(5);
        CHECK.same("sent", world.reg(1, 1), 1);
        CHECK.same("asleep still", world.robotState(0), Words.ASLEEP);
        CHECK.same("ticks left", world.reg(0, Words.SLEEP_LEFT), 7);
        CHECK.same("in its box", world.reg(0, Words.MAILS), 1);
    }

    private static void sendRefused() {
        CHECK.about("Word 17", "0 if there is none such, or it is NEW, DONE or FAILED, or its "
                + "BOX is full.");
        RobotWorld world = new RobotWorld(6, 1, 6, 20, 1);
        Words.start(world, 0, 0, Words.word(Words.END, 0, 0));
        Words.start(world, 1, 0, 255);
        world.spawn(2, 0);
        world.runTicks(2);
        int[] to = {0, 1, 2, 3, 4, 5, 6, -1, 32767, -32768};
        for (int number : to) {
            int id = Words.start(world, 4, 0, Words.set(1, number), Words.word(Words.SEND, 1, 2));
            CHECK.same("the sender", id, 3);
            world.runTicks(2);
            CHECK.same("sent to " + number, world.reg(3, 1), number == 3 ? 1 : 0);
            CHECK.same("place", world.reg(3, Words.PLACE), 2);
            world.kill(3);
        }
        for (int id = 0; id < 3; id++) {
            CHECK.same("nothing came", world.reg(id, Words.MAILS), 0);
        }
        CHECK.same("NEW still", world.robotState(2), Words.NEW);
        CHECK.same("DONE still", world.robotState(0), Words.DONE);
        CHECK.same("FAILED still", world.robotState(1), Words.FAILED);
    }

    private static void sendToItself() {
        CHECK.about("Word 17", "S comes to the BOX of ROBOT number R: R becomes 1");
        RobotWorld world = new RobotWorld(2, 1, 2, 20, 2);
        world.spawn(0, 0);
        Words.start(world, 1, 0, Words.word(Words.NUMBER, 1, 0), Words.word(Words.SEND, 1, 1),
                Words.word(Words.RECEIVE, 2, 0));
        world.runTicks(3);
        CHECK.same("R is S: sent", world.reg(1, 1), 1);
        CHECK.same("its own number", world.reg(1, 2), 1);
        CHECK.same("READY", world.robotState(1), Words.READY);
    }
}
