import java.util.Random;

/**
 * Random runs of calls, each answer held against SlowWorld's; the seeds are fixed. Nothing is promised
 * behind an object's 512th call, so a run ends there.
 */
public final class ModelTest {
    private static final int RUNS = 30000;
    private static final int CALLS = 512;
    /** What the building of a world may use of them, and a look at all of it in the end. */
    private static final int LAND_CALLS = 80;
    private static final int PROGRAM_CALLS = 160;
    private static final int LOOK_CALLS = 200;
    /** A robot that is made in the middle of a run has a short program, so that calls are left. */
    private static final int LATE_WORDS = 12;
    private static final int[] ODD = {-1, -2, 8, 9, 32, 99, 100, 10001, 1 << 16, Integer.MAX_VALUE,
        Integer.MIN_VALUE, Integer.MIN_VALUE + 1, Integer.MAX_VALUE - 1};

    private static final int JUMP_BACK = Words.word(Words.JUMP, 0, 0, 0);

    private final Check check = new Check();
    private final Meetings meetings = new Meetings();
    private Random random;
    private RobotWorld world;
    private SlowWorld model;
    private int w;
    private int h;
    private int most;
    private int longest;
    private int calls;
    private String run;

    public static void main(String[] args) {
        ModelTest test = new ModelTest();
        for (int seed = 0; seed < RUNS && test.check.allRight(); seed++) {
            test.oneRun(seed);
        }
        test.meetings.end(test.check);
        test.check.end("ModelTest");
    }

    private void oneRun(int seed) {
        random = new Random(seed);
        w = seed % 50 == 0 ? size(32) : size(6);
        h = seed % 50 == 0 ? size(32) : size(5);
        most = size(8);
        longest = random.nextInt(4) == 0 ? size(100) : 10 + random.nextInt(20);
        int mails = size(random.nextBoolean() ? 3 : 16);
        run = "seed " + seed + ": ";
        calls = 0;
        meetings.newRun();
        world = new RobotWorld(w, h, most, longest, mails);
        model = new SlowWorld(w, h, most, longest, mails);
        buildLand();
        for (int i = 0; i < most; i++) {
            buildRobot(Math.min(longest, PROGRAM_CALLS / most));
        }
        while (calls < CALLS - LOOK_CALLS && check.allRight()) {
            oneCall();
        }
        compareAll();
        while (calls + 2 <= CALLS && check.allRight()) {
            same("now", world.now(), model.now());
            same("tick", world.tick(), model.tick());
        }
    }

    private int size(int bound) {
        return 1 + random.nextInt(bound);
    }

    /** A number mostly below the bound, seldom a wrong or an extreme one. */
    private int number(int bound) {
        int kind = random.nextInt(24);
        return kind == 0 ? ODD[random.nextInt(ODD.length)] : kind == 1 ? bound : random.nextInt(bound);
    }

    private void buildLand() {
        int walls = Math.min(random.nextInt(w * h / 2 + 1), LAND_CALLS / 2);
        for (int i = 0; i < walls; i++) {
            wall(random.nextInt(w), random.nextInt(h), true);
        }
        for (int i = 0; i < w * h && i < LAND_CALLS / 2; i++) {
            item(random.nextInt(w), random.nextInt(h));
        }
    }

    private void buildRobot(int mostWords) {
        int x = random.nextInt(w);
        int y = random.nextInt(h);
        int id = spawn(x, y);
        int words = random.nextInt(mostWords + 1);
        int before = 0;
        for (int i = 0; i < words; i++) {
            int word = i == words - 1 && random.nextInt(4) != 0 ? JUMP_BACK : someWord(words);
            if (random.nextInt(4) != 0) {
                word = followed(before, word);
            }
            load(id, word);
            before = word;
        }
        if (random.nextInt(8) != 0) {
            same("start", world.startRobot(id), model.startRobot(id));
        }
    }

    private void load(int id, int word) {
        same("load", world.load(id, word) ? 1 : 0, model.load(id, word) ? 1 : 0);
    }

    /** Behind a word that sets a register to a small number, often one that has a use for such. */
    private int followed(int before, int word) {
        int n = before >> 16;
        if ((before & 255) != Words.SET || n < 0 || n > 12) {
            return word;
        }
        int op = random.nextBoolean() ? Words.SLEEP : Words.SEND;
        return Words.word(op, before >> 8 & 7, random.nextInt(8));
    }

    private int someWord(int words) {
        int kind = random.nextInt(60);
        if (kind == 0) {
            return random.nextInt();
        }
        int op = random.nextInt(25);
        if (op == Words.END && random.nextInt(4) != 0) {
            op = Words.SET;
        }
        int n = random.nextInt(12) - 2;
        if (op >= Words.JUMP && op <= Words.JUMP_NOT_ZERO) {
            n = random.nextInt(words + 1);
        } else if (random.nextInt(10) == 0) {
            n = random.nextInt(1 << 16);
        }
        return Words.word(op, random.nextInt(8), random.nextInt(8), n);
    }

    private int spawn(int x, int y) {
        int id = model.spawn(x, y);
        same("spawn", world.spawn(x, y), id);
        meetings.spawned(id);
        return id;
    }

    private void buildLateRobot() {
        buildRobot(Math.min(longest, LATE_WORDS));
    }

    private void oneCall() {
        int kind = random.nextInt(40);
        if (kind < 14) {
            same("tick", world.tick(), model.tick());
        } else if (kind < 22) {
            changeLand(kind);
        } else if (kind < 28) {
            changeRobots(kind);
        } else if (kind < 38) {
            askOne(kind);
        } else if (kind == 38) {
            int n = random.nextInt(10) == 0 ? ODD[random.nextInt(ODD.length)] : random.nextInt(60);
            same("runTicks " + n, world.runTicks(n), model.runTicks(n));
        } else {
            changeTime();
        }
    }

    private void changeLand(int kind) {
        if (kind < 16) {
            wall(number(w), number(h), random.nextInt(3) == 0);
        } else if (kind < 18) {
            wallBetweenQuestions();
        } else {
            int x = number(w);
            int y = number(h);
            int items = random.nextInt(20) == 0 ? 99 : 1;
            for (int i = 0; i < items && calls < CALLS - LOOK_CALLS; i++) {
                item(x, y);
            }
        }
    }

    private void wallBetweenQuestions() {
        int fromX = random.nextInt(w);
        int fromY = random.nextInt(h);
        int x = random.nextInt(w);
        int y = random.nextInt(h);
        meetings.askedBefore(way(fromX, fromY, x, y));
        wall(number(w), number(h), random.nextInt(3) == 0);
        meetings.askedBehind(way(fromX, fromY, x, y));
    }

    private int way(int fromX, int fromY, int x, int y) {
        int due = model.pathLength(fromX, fromY, x, y);
        same("pathLength", world.pathLength(fromX, fromY, x, y), due);
        return due;
    }

    private void wall(int x, int y, boolean on) {
        same("setWall", world.setWall(x, y, on) ? 1 : 0, model.setWall(x, y, on) ? 1 : 0);
    }

    private void item(int x, int y) {
        same("putItem", world.putItem(x, y) ? 1 : 0, model.putItem(x, y) ? 1 : 0);
    }

    private void changeRobots(int kind) {
        int id = number(most);
        if (kind == 22) {
            meetings.killed(id, model.robotState(id));
            same("kill", world.kill(id), model.kill(id));
            if (random.nextBoolean()) {
                buildLateRobot();
            }
        } else if (kind == 23) {
            spawn(number(w), number(h));
        } else if (kind == 24) {
            same("startRobot", world.startRobot(id), model.startRobot(id));
        } else {
            load(id, someWord(10));
        }
    }

    private void askOne(int kind) {
        int x = number(w);
        int y = number(h);
        int id = number(most);
        int r = number(14);
        if (kind < 31) {
            way(number(w), number(h), x, y);
        } else if (kind < 34) {
            same("at", world.at(x, y), model.at(x, y));
        } else {
            same("reg", world.reg(id, r), model.reg(id, r));
            same("robotState", world.robotState(id), model.robotState(id));
            same("robotX", world.robotX(id), model.robotX(id));
            same("robotY", world.robotY(id), model.robotY(id));
        }
    }

    private void changeTime() {
        if (random.nextInt(12) == 0) {
            beginAnew();
        } else {
            meetings.clockSetWith(model);
            int clock = number(1000);
            calls++;
            world.setClock(clock);
            model.setClock(clock);
        }
    }

    private void beginAnew() {
        meetings.initWith(model);
        calls++;
        world.init();
        model.init();
        for (int i = 0; i < most && calls < CALLS - LOOK_CALLS; i++) {
            wall(random.nextInt(w), random.nextInt(h), true);
            item(random.nextInt(w), random.nextInt(h));
            buildLateRobot();
        }
    }

    private void compareAll() {
        same("now", world.now(), model.now());
        for (int id = 0; id < most; id++) {
            same("state of " + id, world.robotState(id), model.robotState(id));
            same("x of " + id, world.robotX(id), model.robotX(id));
            same("y of " + id, world.robotY(id), model.robotY(id));
            for (int r = 0; r <= 13; r++) {
                same("reg " + r + " of " + id, world.reg(id, r), model.reg(id, r));
            }
        }
        for (int i = 0; i < w * h && calls < CALLS; i++) {
            same("at " + i % w + " " + i / w, world.at(i % w, i / w), model.at(i % w, i / w));
        }
    }

    /** Each is one call of the world, so that they can be counted here. */
    private void same(String what, int got, int due) {
        calls++;
        check.same(run + what, got, due);
    }
}
