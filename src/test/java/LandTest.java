/** Promises 1 to 4 and 15: a new object, init, setWall, putItem and at. */
public final class LandTest {
    private static final int LEAST = Integer.MIN_VALUE;
    private static final int GREATEST = Integer.MAX_VALUE;
    private static final Check CHECK = new Check();

    public static void main(String[] args) {
        newWorldIsEmpty();
        initPutsAllBack();
        initPutsTheTurnBack();
        wallsComeAndGo();
        noWallOutsideOrOnRobot();
        itemsUpToNinetyNine();
        noItemOutsideOrOnWall();
        squaresShowRobots();
        CHECK.end("LandTest");
    }

    private static void newWorldIsEmpty() {
        CHECK.about("Promise 1", "An empty world, CLOCK 0.");
        RobotWorld world = new RobotWorld(3, 2, 2, 4, 2);
        CHECK.same("new now", world.now(), 0);
        for (int y = -1; y <= 2; y++) {
            for (int x = -1; x <= 3; x++) {
                boolean inside = x >= 0 && x < 3 && y >= 0 && y < 2;
                CHECK.same("new at " + x + " " + y, world.at(x, y), inside ? 0 : -2);
            }
        }
        CHECK.same("new state 0", world.robotState(0), 0);
        CHECK.same("new state 1", world.robotState(1), 0);
        CHECK.same("new state 2", world.robotState(2), RobotWorld.NONE);
        CHECK.same("new tick", world.tick(), RobotWorld.NONE);
    }

    private static void initPutsAllBack() {
        CHECK.about("Promise 2", "All as at first.");
        RobotWorld world = new RobotWorld(3, 2, 2, 4, 2);
        world.setWall(0, 0, true);
        world.putItem(1, 1);
        int id = Words.start(world, 1, 0, Words.set(3, 5), Words.word(Words.SLEEP, 3, 0));
        world.pathLength(1, 0, 2, 1);
        world.runTicks(7);
        world.setClock(-9);
        world.init();
        CHECK.same("now after init", world.now(), 0);
        for (int i = 0; i < 6; i++) {
            CHECK.same("square after init", world.at(i % 3, i / 3), 0);
        }
        CHECK.same("state after init", world.robotState(id), Words.ABSENT);
        CHECK.same("x after init", world.robotX(id), RobotWorld.NONE);
        for (int r = 0; r <= 13; r++) {
            CHECK.same("reg after init " + r, world.reg(id, r), 0);
        }
        CHECK.same("way over the old wall", world.pathLength(0, 0, 2, 1), 3);
        CHECK.same("spawn after init", world.spawn(2, 1), 0);
        for (int r = 0; r <= 13; r++) {
            CHECK.same("reg of the first after init " + r, world.reg(0, r), 0);
        }
    }

    private static void initPutsTheTurnBack() {
        CHECK.about("Promise 2", "All as at first.");
        RobotWorld world = new RobotWorld(3, 1, 3, 4, 2);
        int[] forEver = {Words.word(Words.JUMP, 0, 0, 0)};
        for (int x = 0; x < 3; x++) {
            Words.start(world, x, 0, forEver);
        }
        CHECK.same("first turn", world.tick(), 0);
        CHECK.same("second turn", world.tick(), 1);
        world.init();
        for (int x = 0; x < 3; x++) {
            Words.start(world, x, 0, forEver);
        }
        CHECK.same("first turn after init", world.tick(), 0);
    }

    private static void wallsComeAndGo() {
        CHECK.about("Promise 3", "A WALL comes (its ITEMS go), or goes: whether.");
        RobotWorld world = new RobotWorld(2, 2, 1, 1, 1);
        world.putItem(1, 0);
        CHECK.yes("no wall goes", world.setWall(1, 0, false));
        CHECK.same("items stay where no wall was", world.at(1, 0), 1);
        CHECK.yes("a wall comes", world.setWall(1, 0, true));
        CHECK.same("wall", world.at(1, 0), -1);
        CHECK.yes("a wall comes again", world.setWall(1, 0, true));
        CHECK.same("wall still", world.at(1, 0), -1);
        CHECK.yes("a wall goes", world.setWall(1, 0, false));
        CHECK.same("its items are gone", world.at(1, 0), 0);
        CHECK.same("other squares stay", world.at(0, 1), 0);
    }

    private static void noWallOutsideOrOnRobot() {
        CHECK.about("Promise 3", "Not: outside, or a ROBOT is there.");
        RobotWorld world = new RobotWorld(2, 3, 1, 1, 1);
        int[][] outside = {{-1, 0}, {0, -1}, {2, 0}, {0, 3}, {2, 2}, {GREATEST, 0}, {0, LEAST}};
        for (int[] square : outside) {
            CHECK.no("wall outside", world.setWall(square[0], square[1], true));
            CHECK.no("no wall outside", world.setWall(square[0], square[1], false));
        }
        CHECK.yes("wall in the corner", world.setWall(1, 2, true));
        world.spawn(1, 1);
        world.putItem(1, 1);
        CHECK.no("wall on a robot", world.setWall(1, 1, true));
        CHECK.no("no wall on a robot", world.setWall(1, 1, false));
        CHECK.same("the robot's square stays", world.at(1, 1), 257);
        world.kill(0);
        CHECK.yes("wall where a robot was", world.setWall(1, 1, true));
    }

    private static void itemsUpToNinetyNine() {
        CHECK.about("Terms", "A square is a WALL, or has ITEMS (0 .. 99) and perhaps a ROBOT.");
        RobotWorld world = new RobotWorld(2, 1, 1, 1, 1);
        world.spawn(1, 0);
        for (int i = 1; i <= 99; i++) {
            CHECK.yes("item " + i, world.putItem(1, 0));
        }
        CHECK.no("item 100", world.putItem(1, 0));
        CHECK.same("99 items and robot 0", world.at(1, 0), 99 + 256);
        CHECK.same("no items beside", world.at(0, 0), 0);
    }

    private static void noItemOutsideOrOnWall() {
        CHECK.about("Promise 4", "Not: outside, a WALL, or 99.");
        RobotWorld world = new RobotWorld(2, 3, 1, 1, 1);
        int[][] outside = {{-1, 0}, {0, -1}, {2, 0}, {0, 3}, {GREATEST, GREATEST}, {LEAST, 0}};
        for (int[] square : outside) {
            CHECK.no("item outside", world.putItem(square[0], square[1]));
        }
        world.setWall(0, 1, true);
        CHECK.no("item on a wall", world.putItem(0, 1));
        CHECK.same("the wall stays", world.at(0, 1), -1);
    }

    private static void squaresShowRobots() {
        CHECK.about("Promise 15", "A square: -2 outside, -1 a WALL, else its ITEMS, and 256 "
                + "times a ROBOT'S number and 1.");
        RobotWorld world = new RobotWorld(8, 1, 8, 1, 1);
        for (int x = 0; x < 8; x++) {
            world.spawn(x, 0);
            world.putItem(x, 0);
            CHECK.same("robot " + x, world.at(x, 0), 1 + 256 * (x + 1));
        }
        CHECK.same("outside west", world.at(-1, 0), -2);
        CHECK.same("outside far", world.at(LEAST, GREATEST), -2);
    }
}
