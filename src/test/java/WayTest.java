/** Promise 16, and the word that asks for the way. */
public final class WayTest {
    private static final int GREATEST = Integer.MAX_VALUE;
    private static final int LEAST = Integer.MIN_VALUE;
    private static final Check CHECK = new Check();

    public static void main(String[] args) {
        openGround();
        roundWalls();
        noWay();
        wallsChangeWays();
        robotsDoNotMatter();
        longestWay();
        leastDirection();
        firstStepIsOfShortestWay();
        stepToNowhere();
        stepAfterWallChange();
        CHECK.end("WayTest");
    }

    /** A world as drawn: '#' is a wall. */
    private static RobotWorld drawn(String... rows) {
        RobotWorld world = new RobotWorld(rows[0].length(), rows.length, 8, 20, 4);
        for (int y = 0; y < rows.length; y++) {
            for (int x = 0; x < rows[y].length(); x++) {
                if (rows[y].charAt(x) == '#') {
                    world.setWall(x, y, true);
                }
            }
        }
        return world;
    }

    /** What word 20 answers to a robot on one square about another. */
    private static int step(RobotWorld world, int x0, int y0, int x1, int y1) {
        int id = Words.start(world, x0, y0, Words.set(3, x1), Words.set(5, y1),
                Words.word(Words.WAY, 3, 5));
        for (int i = 0; i < 3; i++) {
            CHECK.same("it runs", world.tick(), id);
        }
        CHECK.same("S stays", world.reg(id, 5), y1);
        CHECK.same("place", world.reg(id, Words.PLACE), 3);
        CHECK.same("x stays", world.robotX(id), x0);
        CHECK.same("y stays", world.robotY(id), y0);
        int answer = world.reg(id, 3);
        world.kill(id);
        return answer;
    }

    private static void openGround() {
        CHECK.about("Promise 16", "How many steps a shortest WAY has");
        RobotWorld world = new RobotWorld(32, 32, 1, 1, 1);
        CHECK.same("here", world.pathLength(5, 6, 5, 6), 0);
        CHECK.same("east", world.pathLength(5, 6, 6, 6), 1);
        CHECK.same("corner", world.pathLength(0, 0, 31, 31), 62);
        CHECK.same("other corner", world.pathLength(31, 0, 0, 31), 62);
        CHECK.same("between", world.pathLength(3, 29, 30, 4), 52);
    }

    private static void roundWalls() {
        CHECK.about("Terms", "A WAY goes from square to square in DIRECTIONS, not over WALLS");
        RobotWorld world = drawn("..#..", ".##..", ".#.#.", ".....");
        CHECK.same("round", world.pathLength(0, 0, 3, 0), 11);
        CHECK.same("back", world.pathLength(3, 0, 0, 0), 11);
        CHECK.same("into the nook", world.pathLength(4, 1, 2, 2), 5);
        CHECK.same("short", world.pathLength(0, 3, 4, 3), 4);
    }

    private static void noWay() {
        CHECK.about("Promise 16", "NONE: there is none, or one of the squares is outside or a "
                + "WALL.");
        RobotWorld world = drawn("..#.", "##..", "....");
        CHECK.same("closed in", world.pathLength(0, 0, 3, 2), RobotWorld.NONE);
        CHECK.same("closed out", world.pathLength(3, 2, 0, 0), RobotWorld.NONE);
        CHECK.same("within", world.pathLength(1, 0, 0, 0), 1);
        CHECK.same("from a wall", world.pathLength(2, 0, 3, 0), RobotWorld.NONE);
        CHECK.same("to a wall", world.pathLength(3, 0, 2, 0), RobotWorld.NONE);
        CHECK.same("on a wall", world.pathLength(2, 0, 2, 0), RobotWorld.NONE);
        int[][] outside = {{-1, 0}, {0, -1}, {4, 0}, {0, 3}, {GREATEST, 0}, {0, LEAST}, {32, 0}};
        for (int[] square : outside) {
            int x = square[0];
            int y = square[1];
            CHECK.same("from outside", world.pathLength(x, y, 0, 0), RobotWorld.NONE);
            CHECK.same("to outside", world.pathLength(0, 0, x, y), RobotWorld.NONE);
            CHECK.same("all outside", world.pathLength(x, y, x, y), RobotWorld.NONE);
        }
    }

    private static void wallsChangeWays() {
        CHECK.about("Promise 16", "How many steps a shortest WAY has");
        RobotWorld world = new RobotWorld(3, 3, 1, 1, 1);
        CHECK.same("straight", world.pathLength(0, 1, 2, 1), 2);
        world.setWall(1, 1, true);
        CHECK.same("round", world.pathLength(0, 1, 2, 1), 4);
        world.setWall(1, 0, true);
        world.setWall(1, 2, true);
        CHECK.same("cut off", world.pathLength(0, 1, 2, 1), RobotWorld.NONE);
        world.setWall(1, 2, false);
        CHECK.same("open again", world.pathLength(0, 1, 2, 1), 4);
        world.setWall(2, 1, true);
        CHECK.same("the goal is a wall", world.pathLength(0, 1, 2, 1), RobotWorld.NONE);
        world.setWall(2, 1, false);
        world.init();
        CHECK.same("after init", world.pathLength(0, 1, 2, 1), 2);
    }

    private static void robotsDoNotMatter() {
        CHECK.about("Terms", "not over WALLS (ROBOTS do not matter)");
        RobotWorld world = new RobotWorld(3, 1, 3, 9, 1);
        world.putItem(1, 0);
        world.spawn(1, 0);
        world.spawn(2, 0);
        CHECK.same("over a robot to a robot", world.pathLength(0, 0, 2, 0), 2);
        CHECK.same("step to it", step(world, 0, 0, 2, 0), 1);
    }

    /** A way that turns at every second row, through the whole of the greatest world. */
    private static void longestWay() {
        CHECK.about("Promise 16", "How many steps a shortest WAY has");
        RobotWorld world = new RobotWorld(32, 32, 1, 1, 1);
        for (int y = 1; y < 32; y += 2) {
            for (int x = 0; x < 31; x++) {
                world.setWall(y % 4 == 1 ? x : x + 1, y, true);
            }
        }
        CHECK.same("snake", world.pathLength(0, 0, 31, 30), 15 * 33);
        CHECK.same("snake's end", world.pathLength(0, 0, 0, 31), 15 * 33 + 31 + 1);
    }

    private static void leastDirection() {
        CHECK.about("Terms", "its first step is the least DIRECTION of those with which a "
                + "shortest one begins");
        RobotWorld world = new RobotWorld(3, 3, 1, 9, 1);
        int[][] due = {{0, 0, 0}, {3, 4, 1}, {2, 2, 1}};
        for (int y = 0; y < 3; y++) {
            for (int x = 0; x < 3; x++) {
                CHECK.same("step to " + x + " " + y, step(world, 1, 1, x, y), due[y][x]);
            }
        }
    }

    private static void firstStepIsOfShortestWay() {
        CHECK.about("Word 20", "20: R becomes the DIRECTION of the first step of the way to the "
                + "square (R, S)");
        RobotWorld world = drawn("....#", ".##.#", "...#.", ".#...");
        CHECK.same("round the wall", step(world, 2, 2, 2, 0), 3);
        CHECK.same("south", step(world, 2, 2, 4, 2), 2);
        CHECK.same("north", step(world, 0, 3, 3, 1), 0);
        CHECK.same("cut off", step(world, 0, 0, 4, 0), -1);
        CHECK.same("there", step(world, 3, 1, 3, 1), 4);
    }

    private static void stepToNowhere() {
        CHECK.about("Word 20", "4 if it is there, -1 if there is no way");
        RobotWorld world = drawn("..#", "...");
        CHECK.same("a wall", step(world, 1, 1, 2, 0), -1);
        CHECK.same("west outside", step(world, 1, 1, -1, 1), -1);
        CHECK.same("east outside", step(world, 1, 1, 3, 1), -1);
        CHECK.same("north outside", step(world, 1, 1, 1, -1), -1);
        CHECK.same("south outside", step(world, 1, 1, 1, 2), -1);
        CHECK.same("far outside", step(world, 1, 1, 32767, -32768), -1);
        RobotWorld same = new RobotWorld(3, 3, 1, 9, 1);
        Words.start(same, 0, 1, Words.set(2, 2), Words.word(Words.WAY, 2, 2));
        same.runTicks(2);
        CHECK.same("R is S", same.reg(0, 2), 1);
    }

    private static void stepAfterWallChange() {
        CHECK.about("Word 20", "R becomes the DIRECTION of the first step of the way to the "
                + "square (R, S)");
        RobotWorld world = new RobotWorld(3, 2, 1, 9, 1);
        CHECK.same("straight", step(world, 0, 0, 2, 0), 1);
        world.setWall(1, 0, true);
        CHECK.same("round", step(world, 0, 0, 2, 0), 2);
        world.setWall(1, 1, true);
        CHECK.same("no way", step(world, 0, 0, 2, 0), -1);
        world.setWall(1, 0, false);
        CHECK.same("straight again", step(world, 0, 0, 2, 0), 1);
    }
}
