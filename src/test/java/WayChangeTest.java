import java.util.Random;

/** Walls, robots and items that come or go between two questions for the way. */
public final class WayChangeTest {
    private static final int NONE = RobotWorld.NONE;
    private static final int NORTH = 0, EAST = 1, SOUTH = 2, WEST = 3, THERE = 4, NO_WAY = -1;
    private static final Check CHECK = new Check();

    public static void main(String[] args) {
        wallOnTheWay();
        wallOnAnEnd();
        otherGoalsBetween();
        bothWays();
        wallThatIsRefused();
        wallThatWasSoBefore();
        robotsAndItems();
        wordAsksAgain();
        wordAndFaceByTurns();
        robotWalksRoundNewWall();
        initBetween();
        leastDirectionAnew();
        for (int seed = 0; seed < 300; seed++) {
            anyWalls(seed);
        }
        CHECK.end("WayChangeTest");
    }

    /** A robot on (1, 1) of five times three squares that asks for the way to (4, 1) each tick. */
    private static RobotWorld withAsker() {
        RobotWorld world = new RobotWorld(5, 3, 3, 20, 1);
        Words.start(world, 1, 1, Words.set(1, 4), Words.set(2, 1), Words.word(Words.WAY, 1, 2),
                Words.word(Words.JUMP, 0, 0, 0));
        return world;
    }

    private static int askedStep(RobotWorld world) {
        CHECK.same("the asker ran", world.runTicks(3), 3);
        int step = world.reg(0, 1);
        world.tick();
        return step;
    }

    private static void wallOnTheWay() {
        CHECK.about("Promise 16", "How many steps a shortest WAY has");
        RobotWorld world = new RobotWorld(5, 3, 1, 1, 1);
        CHECK.same("straight", world.pathLength(0, 1, 4, 1), 4);
        world.setWall(2, 1, true);
        CHECK.same("round it", world.pathLength(0, 1, 4, 1), 6);
        world.setWall(2, 0, true);
        CHECK.same("round it in the south", world.pathLength(0, 1, 4, 1), 6);
        world.setWall(2, 2, true);
        CHECK.same("cut off", world.pathLength(0, 1, 4, 1), NONE);
        world.setWall(2, 0, false);
        CHECK.same("round it in the north", world.pathLength(0, 1, 4, 1), 6);
        world.setWall(2, 1, false);
        CHECK.same("straight again", world.pathLength(0, 1, 4, 1), 4);
    }

    private static void wallOnAnEnd() {
        CHECK.about("Promise 16", "NONE: there is none, or one of the squares is outside or a WALL.");
        RobotWorld world = new RobotWorld(5, 3, 1, 1, 1);
        int[][] ends = {{0, 1}, {4, 1}};
        for (int[] end : ends) {
            CHECK.same("before", world.pathLength(0, 1, 4, 1), 4);
            world.setWall(end[0], end[1], true);
            CHECK.same("a wall there", world.pathLength(0, 1, 4, 1), NONE);
            CHECK.same("a wall there, back", world.pathLength(4, 1, 0, 1), NONE);
            CHECK.same("from the wall to it", world.pathLength(end[0], 1, end[0], 1), NONE);
            world.setWall(end[0], end[1], false);
            CHECK.same("the wall is gone", world.pathLength(0, 1, 4, 1), 4);
            CHECK.same("from there to it", world.pathLength(end[0], 1, end[0], 1), 0);
        }
    }

    private static void otherGoalsBetween() {
        CHECK.about("Promise 16", "How many steps a shortest WAY has");
        RobotWorld world = new RobotWorld(4, 4, 1, 1, 1);
        CHECK.same("to the corner", world.pathLength(0, 0, 3, 0), 3);
        world.setWall(2, 0, true);
        CHECK.same("to another", world.pathLength(0, 0, 0, 3), 3);
        CHECK.same("to the corner, round", world.pathLength(0, 0, 3, 0), 5);
        CHECK.same("to a wall", world.pathLength(0, 0, 2, 0), NONE);
        world.setWall(2, 0, false);
        CHECK.same("to what was a wall", world.pathLength(0, 0, 2, 0), 2);
        CHECK.same("outside", world.pathLength(0, 0, 4, 0), NONE);
        CHECK.same("to the corner, straight", world.pathLength(0, 0, 3, 0), 3);
        CHECK.same("to where the second was", world.pathLength(3, 3, 0, 3), 3);
    }

    private static void bothWays() {
        CHECK.about("Terms", "A WAY goes from square to square in DIRECTIONS");
        RobotWorld world = new RobotWorld(5, 3, 1, 1, 1);
        int[][] walls = {{2, 1}, {2, 0}, {3, 2}, {1, 0}};
        int[] due = {6, 6, NONE, NONE};
        for (int i = 0; i < walls.length; i++) {
            world.setWall(walls[i][0], walls[i][1], true);
            if (i == 2) {
                world.setWall(3, 1, true);
            }
            CHECK.same("there, walls " + i, world.pathLength(0, 1, 4, 1), due[i]);
            CHECK.same("back, walls " + i, world.pathLength(4, 1, 0, 1), due[i]);
        }
    }

    private static void wallThatIsRefused() {
        CHECK.about("Promise 3", "Not: outside, or a ROBOT is there.");
        RobotWorld world = new RobotWorld(3, 1, 1, 1, 1);
        world.spawn(1, 0);
        CHECK.same("before", world.pathLength(0, 0, 2, 0), 2);
        CHECK.no("on the robot", world.setWall(1, 0, true));
        CHECK.same("over the robot still", world.pathLength(0, 0, 2, 0), 2);
        CHECK.no("outside", world.setWall(1, 1, true));
        CHECK.same("as before", world.pathLength(0, 0, 2, 0), 2);
        world.kill(0);
        CHECK.yes("where it was", world.setWall(1, 0, true));
        CHECK.same("cut off", world.pathLength(0, 0, 2, 0), NONE);
    }

    private static void wallThatWasSoBefore() {
        CHECK.about("Promise 3", "A WALL comes (its ITEMS go), or goes: whether.");
        RobotWorld world = new RobotWorld(3, 2, 1, 1, 1);
        CHECK.yes("a wall", world.setWall(1, 0, true));
        CHECK.same("round it", world.pathLength(0, 0, 2, 0), 4);
        CHECK.yes("the wall once more", world.setWall(1, 0, true));
        CHECK.same("round it still", world.pathLength(0, 0, 2, 0), 4);
        CHECK.yes("none where none is", world.setWall(1, 1, false));
        CHECK.same("round it as before", world.pathLength(0, 0, 2, 0), 4);
        CHECK.yes("it goes at once", world.setWall(1, 0, false));
        CHECK.same("straight", world.pathLength(0, 0, 2, 0), 2);
    }

    private static void robotsAndItems() {
        CHECK.about("Terms", "not over WALLS (ROBOTS do not matter)");
        RobotWorld world = new RobotWorld(3, 1, 3, 1, 1);
        for (int x = 0; x < 3; x++) {
            CHECK.same("before " + x, world.pathLength(0, 0, 2, 0), 2);
            world.spawn(x, 0);
            Words.putItems(world, x, 0, 5);
        }
        CHECK.same("over three robots", world.pathLength(0, 0, 2, 0), 2);
        world.kill(1);
        CHECK.same("over two", world.pathLength(0, 0, 2, 0), 2);
    }

    private static void wordAsksAgain() {
        CHECK.about("Word 20", "R becomes the DIRECTION of the first step of the way to the square "
                + "(R, S): 4 if it is there, -1 if there is no way");
        RobotWorld world = withAsker();
        CHECK.same("straight", askedStep(world), EAST);
        world.setWall(2, 1, true);
        CHECK.same("round it in the north", askedStep(world), NORTH);
        world.setWall(2, 0, true);
        CHECK.same("round it in the south", askedStep(world), SOUTH);
        world.setWall(1, 2, true);
        CHECK.same("cut off", askedStep(world), NO_WAY);
        world.setWall(2, 1, false);
        CHECK.same("straight again", askedStep(world), EAST);
        world.setWall(4, 1, true);
        CHECK.same("the goal is a wall", askedStep(world), NO_WAY);
        world.setWall(4, 1, false);
        CHECK.same("it is none any more", askedStep(world), EAST);
    }

    private static void wordAndFaceByTurns() {
        CHECK.about("Word 20", "R becomes the DIRECTION of the first step of the way to the square "
                + "(R, S)");
        RobotWorld world = withAsker();
        CHECK.same("length", world.pathLength(1, 1, 4, 1), 3);
        CHECK.same("step", askedStep(world), EAST);
        world.setWall(3, 1, true);
        CHECK.same("length round it", world.pathLength(1, 1, 4, 1), 5);
        CHECK.same("step round it", askedStep(world), NORTH);
        CHECK.same("length to another", world.pathLength(0, 0, 0, 2), 2);
        CHECK.same("step as before", askedStep(world), NORTH);
        world.setWall(1, 0, true);
        CHECK.same("step straight", askedStep(world), EAST);
        CHECK.same("length as before", world.pathLength(1, 1, 4, 1), 5);
    }

    private static void robotWalksRoundNewWall() {
        CHECK.about("Word 13", "it goes in DIRECTION R (its lowest two bits): S becomes 1");
        RobotWorld world = new RobotWorld(5, 3, 1, 20, 1);
        Words.start(world, 0, 1, Words.set(1, 4), Words.set(2, 1), Words.word(Words.WAY, 1, 2),
                Words.word(Words.GO, 1, 3), Words.word(Words.JUMP, 0, 0, 0));
        int[][] due = {{1, 1}, {2, 1}, {2, 0}, {3, 0}, {4, 0}, {4, 1}};
        for (int i = 0; i < due.length; i++) {
            world.runTicks(5);
            CHECK.same("x " + i, world.robotX(0), due[i][0]);
            CHECK.same("y " + i, world.robotY(0), due[i][1]);
            CHECK.same("it went", world.reg(0, 3), 1);
            if (i == 1) {
                world.setWall(3, 1, true);
            }
        }
        CHECK.about("Word 20", "4 if it is there");
        world.runTicks(3);
        CHECK.same("there", world.reg(0, 1), THERE);
    }

    private static void initBetween() {
        CHECK.about("Promise 2", "All as at first.");
        RobotWorld world = withAsker();
        for (int y = 0; y < 3; y++) {
            world.setWall(2, y, true);
        }
        CHECK.same("cut off", askedStep(world), NO_WAY);
        CHECK.same("no length", world.pathLength(1, 1, 4, 1), NONE);
        world.init();
        CHECK.same("straight", world.pathLength(1, 1, 4, 1), 3);
        world.setWall(2, 1, true);
        CHECK.same("round a new one", world.pathLength(1, 1, 4, 1), 5);
        world.init();
        CHECK.same("straight again", world.pathLength(1, 1, 4, 1), 3);
    }

    private static void leastDirectionAnew() {
        CHECK.about("Terms", "its first step is the least DIRECTION of those with which a shortest "
                + "one begins");
        stepsToCorner(2, 2, 1, EAST, SOUTH);
        stepsToCorner(0, 1, 0, NORTH, WEST);
    }

    /** From the middle to a corner two first steps are as good; a wall takes the less one away. */
    private static void stepsToCorner(int corner, int wallX, int wallY, int less, int more) {
        RobotWorld world = new RobotWorld(3, 3, 1, 9, 1);
        int set = Words.set(1, corner);
        int ask = Words.word(Words.WAY, 1, 2);
        Words.start(world, 1, 1, set, Words.set(2, corner), ask, set, ask, set, ask);
        world.runTicks(3);
        CHECK.same("the less one", world.reg(0, 1), less);
        world.setWall(wallX, wallY, true);
        world.runTicks(2);
        CHECK.same("the other alone", world.reg(0, 1), more);
        world.setWall(wallX, wallY, false);
        world.runTicks(2);
        CHECK.same("the less one again", world.reg(0, 1), less);
    }

    /** The same few questions again and again, while walls come and go. */
    private static void anyWalls(int seed) {
        CHECK.about("Promise 16", "How many steps a shortest WAY has; NONE: there is none");
        Random random = new Random(seed);
        int w = 2 + random.nextInt(6);
        int h = 2 + random.nextInt(5);
        RobotWorld world = new RobotWorld(w, h, 1, 1, 1);
        SlowWorld model = new SlowWorld(w, h, 1, 1, 1);
        for (int i = 0; i < 120; i++) {
            int x = random.nextInt(w);
            int y = random.nextInt(h);
            boolean on = random.nextInt(5) < 2;
            model.setWall(x, y, on);
            CHECK.yes("wall", world.setWall(x, y, on));
            String run = "seed " + seed + ", wall " + i;
            CHECK.same(run, world.pathLength(0, 0, w - 1, h - 1), model.pathLength(0, 0, w - 1, h - 1));
            CHECK.same(run, world.pathLength(w - 1, 0, w - 1, h - 1),
                    model.pathLength(w - 1, 0, w - 1, h - 1));
            CHECK.same(run, world.pathLength(w / 2, h / 2, 0, 0), model.pathLength(w / 2, h / 2, 0, 0));
        }
    }
}
