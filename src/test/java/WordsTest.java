/** What each word does ('Terms', for promises 8 and 14). */
public final class WordsTest {
    private static final int LEAST = Integer.MIN_VALUE;
    private static final int GREATEST = Integer.MAX_VALUE;
    private static final Check CHECK = new Check();

    public static void main(String[] args) {
        end();
        setAndCopy();
        calculation();
        comparison();
        jumps();
        going();
        looking();
        takingAndLaying();
        layingOnFullSquare();
        asking();
        unusedPartsDoNotMatter();
        CHECK.end("WordsTest");
    }

    /** A world of one square whose robot has done the program's words, one tick each. */
    private static RobotWorld ran(int... program) {
        RobotWorld world = new RobotWorld(1, 1, 1, 100, 4);
        Words.start(world, 0, 0, program);
        world.runTicks(program.length);
        return world;
    }

    private static void end() {
        CHECK.about("Word 0", "0: DONE.");
        RobotWorld world = ran(Words.word(Words.END, 0, 0));
        CHECK.same("state", world.robotState(0), Words.DONE);
        CHECK.same("place", world.reg(0, Words.PLACE), 1);
        CHECK.same("words done", world.reg(0, Words.WORDS_DONE), 1);
        CHECK.same("does no more", world.tick(), RobotWorld.NONE);
        CHECK.same("words done still", world.reg(0, Words.WORDS_DONE), 1);
    }

    private static void setAndCopy() {
        CHECK.about("Words 1 and 2", "1: R becomes n. 2: S.");
        int[] numbers = {0, 1, -1, 32767, -32768, 12345};
        for (int n : numbers) {
            RobotWorld world = ran(Words.set(7, n), Words.word(Words.COPY, 3, 7));
            CHECK.same("set", world.reg(0, 7), n);
            CHECK.same("copy", world.reg(0, 3), n);
            CHECK.same("place", world.reg(0, Words.PLACE), 2);
        }
    }

    private static void calculation() {
        CHECK.about("Words 3 to 7", "3 .. 5: R and S; R less S; R times S. 6: R / S towards 0; 7 "
                + "the rest.");
        int[] values = {0, 1, -1, 2, -2, 7, -7, 100, 65536, LEAST, LEAST + 1, GREATEST};
        for (int a : values) {
            for (int b : values) {
                CHECK.same(a + " and " + b, result(Words.ADD, a, b), a + b);
                CHECK.same(a + " less " + b, result(Words.LESS, a, b), a - b);
                CHECK.same(a + " times " + b, result(Words.TIMES, a, b), (int) ((long) a * b));
                if (b != 0) {
                    CHECK.same(a + " / " + b, result(Words.DIVIDE, a, b), (int) ((long) a / b));
                    CHECK.same(a + " rest " + b, result(Words.REST, a, b), (int) ((long) a % b));
                }
            }
        }
    }

    private static void comparison() {
        CHECK.about("Words 8 and 9", "8: 1, if R is below S, else 0. 9: if they are the same.");
        int[] values = {0, 1, -1, 2, LEAST, GREATEST};
        for (int a : values) {
            for (int b : values) {
                CHECK.same(a + " below " + b, result(Words.BELOW, a, b), a < b ? 1 : 0);
                CHECK.same(a + " same " + b, result(Words.SAME, a, b), a == b ? 1 : 0);
            }
        }
    }

    /** What register 1 is after the op on 1 and 2, which hold a and b; 2 has to stay. */
    private static int result(int op, int a, int b) {
        RobotWorld world = new RobotWorld(1, 1, 1, 100, 4);
        int words = 2 * Words.BIG + 1;
        Words.start(world, 0, 0, Words.joined(Words.big(1, a), Words.big(2, b),
                Words.program(Words.word(op, 1, 2))));
        CHECK.same("ticks", world.runTicks(words), words);
        CHECK.same("S of op " + op, world.reg(0, 2), b);
        CHECK.same("place", world.reg(0, Words.PLACE), words);
        CHECK.same("state", world.robotState(0), Words.READY);
        return world.reg(0, 1);
    }

    private static void jumps() {
        CHECK.about("Words 10 to 12", "10: the PLACE becomes n. 11: if R is 0. 12: if R is not 0.");
        int[] values = {0, 1, -1, 256};
        for (int value : values) {
            CHECK.same("jump", placeAfter(Words.JUMP, value, 3), 3);
            CHECK.same("if 0", placeAfter(Words.JUMP_ZERO, value, 3), value == 0 ? 3 : 2);
            CHECK.same("if not 0", placeAfter(Words.JUMP_NOT_ZERO, value, 3), value == 0 ? 2 : 3);
        }
        CHECK.same("jump back", placeAfter(Words.JUMP, 0, 0), 0);
        CHECK.same("jump before the program", placeAfter(Words.JUMP, 0, -32768), -32768);
        CHECK.same("jump behind the program", placeAfter(Words.JUMP, 0, 32767), 32767);
    }

    private static int placeAfter(int op, int value, int n) {
        RobotWorld world = ran(Words.set(5, value), Words.word(op, 5, 0, n));
        CHECK.same("R stays", world.reg(0, 5), value);
        CHECK.same("words done", world.reg(0, Words.WORDS_DONE), 2);
        CHECK.same("state", world.robotState(0), Words.READY);
        return world.reg(0, Words.PLACE);
    }

    private static void going() {
        CHECK.about("Terms", "DIRECTIONS 0 north (y less 1), 1 east (x and 1), 2 south, 3 west.");
        int[] east = {0, 1, 0, -1};
        int[] south = {-1, 0, 1, 0};
        int[] wide = {0, 1, 2, 3, 4, 5, -1, -2, 32766, 256};
        for (int direction : wide) {
            RobotWorld world = new RobotWorld(3, 3, 1, 9, 1);
            goOnce(world, 1, 1, direction);
            CHECK.same("went", world.reg(0, 4), 1);
            CHECK.same("x", world.robotX(0), 1 + east[direction & 3]);
            CHECK.same("y", world.robotY(0), 1 + south[direction & 3]);
            CHECK.same("R stays", world.reg(0, 3), direction);
            CHECK.same("left square", world.at(1, 1), 0);
            CHECK.same("new square", world.at(1 + east[direction & 3], 1 + south[direction & 3]), 256);
        }
        for (int direction = 0; direction < 4; direction++) {
            stays(direction, 1 + east[direction], 1 + south[direction]);
        }
        RobotWorld same = new RobotWorld(3, 1, 1, 9, 1);
        Words.start(same, 0, 0, Words.set(1, 5), Words.word(Words.GO, 1, 1));
        same.runTicks(2);
        CHECK.same("R is S: went", same.reg(0, 1), 1);
        CHECK.same("R is S: x", same.robotX(0), 1);
    }

    private static void goOnce(RobotWorld world, int x, int y, int direction) {
        Words.start(world, x, y, Words.set(3, direction), Words.set(4, 77),
                Words.word(Words.GO, 3, 4));
        world.runTicks(3);
        CHECK.same("place", world.reg(0, Words.PLACE), 3);
    }

    private static void stays(int direction, int x, int y) {
        RobotWorld walled = new RobotWorld(3, 3, 1, 9, 1);
        walled.setWall(x, y, true);
        goOnce(walled, 1, 1, direction);
        CHECK.same("wall", walled.reg(0, 4), 0);
        CHECK.same("stays", walled.at(1, 1), 256);
        RobotWorld small = new RobotWorld(1, 1, 1, 9, 1);
        goOnce(small, 0, 0, direction);
        CHECK.same("nothing there", small.reg(0, 4), 0);
        CHECK.same("stays inside", small.at(0, 0), 256);
        RobotWorld full = new RobotWorld(3, 3, 2, 9, 1);
        Words.start(full, 1, 1, Words.set(3, direction), Words.set(4, 77),
                Words.word(Words.GO, 3, 4));
        full.spawn(x, y);
        full.runTicks(3);
        CHECK.same("robot", full.reg(0, 4), 2);
        CHECK.same("stays beside the robot", full.at(1, 1), 256);
        CHECK.same("the other stays", full.at(x, y), 512);
    }

    private static void looking() {
        CHECK.about("Word 14", "14: S becomes what is there in that DIRECTION, as at() says.");
        RobotWorld world = new RobotWorld(3, 2, 2, 20, 1);
        world.setWall(2, 1, true);
        world.spawn(0, 1);
        world.putItem(0, 1);
        world.putItem(1, 0);
        world.putItem(1, 0);
        Words.start(world, 1, 1, Words.set(0, 4), Words.word(Words.LOOK, 0, 1), Words.set(0, 1),
                Words.word(Words.LOOK, 0, 2), Words.set(0, 2), Words.word(Words.LOOK, 0, 3),
                Words.set(0, -1), Words.word(Words.LOOK, 0, 4), Words.word(Words.LOOK, 0, 0));
        world.runTicks(9);
        CHECK.same("items in the north", world.reg(1, 1), 2);
        CHECK.same("wall in the east", world.reg(1, 2), -1);
        CHECK.same("nothing in the south", world.reg(1, 3), -2);
        CHECK.same("robot in the west", world.reg(1, 4), 257);
        CHECK.same("R is S", world.reg(1, 0), 257);
        CHECK.same("it stays", world.at(1, 1), 512);
    }

    private static void takingAndLaying() {
        RobotWorld world = new RobotWorld(1, 1, 1, 40, 1);
        for (int i = 0; i < 10; i++) {
            world.putItem(0, 0);
        }
        world.spawn(0, 0);
        for (int i = 0; i < 10; i++) {
            world.load(0, Words.word(Words.TAKE, 1, 0));
        }
        for (int i = 0; i < 10; i++) {
            world.load(0, Words.word(Words.LAY, 2, 0));
        }
        world.startRobot(0);
        CHECK.about("Word 15", "15: an ITEM of its square comes to its LOAD: R becomes 1; 0, if there is "
                + "none, or the LOAD is 9.");
        for (int i = 1; i <= 10; i++) {
            world.tick();
            CHECK.same("taken " + i, world.reg(0, 1), i <= 9 ? 1 : 0);
            CHECK.same("carried " + i, world.reg(0, Words.LOAD), Math.min(i, 9));
            CHECK.same("left " + i, world.at(0, 0), 256 + 10 - Math.min(i, 9));
        }
        CHECK.about("Word 16", "16: an ITEM of its LOAD comes to its square: R becomes 1; 0 if it has none");
        for (int i = 1; i <= 10; i++) {
            world.tick();
            CHECK.same("laid " + i, world.reg(0, 2), i <= 9 ? 1 : 0);
            CHECK.same("carried still " + i, world.reg(0, Words.LOAD), Math.max(9 - i, 0));
            CHECK.same("there " + i, world.at(0, 0), 256 + 1 + Math.min(i, 9));
        }
        CHECK.about("Terms", "a LOAD of items (0 .. 9)");
        RobotWorld bare = ran(Words.set(1, 5), Words.word(Words.TAKE, 1, 0));
        CHECK.same("none to take", bare.reg(0, 1), 0);
        CHECK.same("none taken", bare.reg(0, Words.LOAD), 0);
        CHECK.same("none there", bare.at(0, 0), 256);
    }

    private static void layingOnFullSquare() {
        CHECK.about("Word 16", "16: an ITEM of its LOAD comes to its square: R becomes 1; 0 if "
                + "it has none, or there are 99.");
        RobotWorld world = new RobotWorld(1, 1, 1, 40, 1);
        world.putItem(0, 0);
        Words.start(world, 0, 0, Words.word(Words.TAKE, 1, 0), Words.set(2, 9),
                Words.word(Words.LAY, 2, 0));
        world.runTicks(2);
        for (int i = 0; i < 99; i++) {
            world.putItem(0, 0);
        }
        world.tick();
        CHECK.same("laid on 99", world.reg(0, 2), 0);
        CHECK.same("still carried", world.reg(0, Words.LOAD), 1);
        CHECK.same("99 there", world.at(0, 0), 256 + 99);
    }

    private static void asking() {
        CHECK.about("Words 21 to 24", "21: R becomes its x, S then its y. 22: R becomes its "
                + "number. 23: the CLOCK. 24: its LOAD.");
        RobotWorld world = new RobotWorld(6, 5, 3, 20, 1);
        world.spawn(0, 0);
        world.spawn(1, 0);
        world.putItem(4, 3);
        Words.start(world, 4, 3, Words.word(Words.WHERE, 0, 1), Words.word(Words.WHERE, 2, 2),
                Words.word(Words.NUMBER, 3, 0), Words.word(Words.TAKE, 4, 0),
                Words.word(Words.CARRIED, 5, 0), Words.word(Words.CLOCK, 6, 0));
        world.setClock(1000);
        world.runTicks(6);
        int[] due = {4, 3, 3, 2, 1, 1, 1005, 0, 6};
        for (int r = 0; r < due.length; r++) {
            CHECK.same("asked " + r, world.reg(2, r), due[r]);
        }
    }

    private static void unusedPartsDoNotMatter() {
        CHECK.about("Terms", "(R, S are registers r, s");
        int loud = Words.word(Words.COPY, 1, 2, -1);
        RobotWorld world = ran(Words.set(2, 9), loud, Words.word(Words.SET, 3, 7, 8),
                Words.word(Words.END, 7, 7, -1));
        CHECK.same("copy with n", world.reg(0, 1), 9);
        CHECK.same("set with s", world.reg(0, 3), 8);
        CHECK.same("end with all", world.robotState(0), Words.DONE);
    }
}
