import java.util.Arrays;

/**
 * A world of squares with walls and items, and robots in it that run small programs, one word a
 * tick, in turn. The document's promises say what each call answers; no call ever throws.
 */
public final class RobotWorld {
    public static final int NONE = -1, BAD = -2, FULL = -3, TAKEN = -4;

    private static final int MOST_SIDE = 32;
    private static final int MOST_ROBOTS = 8;
    private static final int MOST_WORDS = 100;
    private static final int MOST_MAILS = 16;
    private static final int MOST_ITEMS = 99;
    private static final int MOST_CARRIED = 9;
    private static final int MOST_TICKS = 10000;
    private static final int REGISTERS = 8;

    private static final int OUTSIDE = -2;
    private static final int WALL = -1;
    private static final int ROBOT_UNIT = 256;

    private static final int ABSENT = 0;
    private static final int NEW = 1;
    private static final int READY = 2;
    private static final int ASLEEP = 3;
    private static final int WAITING = 4;
    private static final int DONE = 5;
    private static final int FAILED = 6;

    private static final int OP_END = 0;
    private static final int OP_SET = 1;
    private static final int OP_COPY = 2;
    private static final int OP_ADD = 3;
    private static final int OP_SUBTRACT = 4;
    private static final int OP_MULTIPLY = 5;
    private static final int OP_DIVIDE = 6;
    private static final int OP_REST = 7;
    private static final int OP_BELOW = 8;
    private static final int OP_SAME = 9;
    private static final int OP_JUMP = 10;
    private static final int OP_JUMP_IF_ZERO = 11;
    private static final int OP_JUMP_IF_NOT_ZERO = 12;
    private static final int OP_GO = 13;
    private static final int OP_LOOK = 14;
    private static final int OP_TAKE = 15;
    private static final int OP_LAY = 16;
    private static final int OP_SEND = 17;
    private static final int OP_RECEIVE = 18;
    private static final int OP_SLEEP = 19;
    private static final int OP_WAY = 20;
    private static final int OP_WHERE = 21;
    private static final int OP_NUMBER = 22;
    private static final int OP_CLOCK = 23;
    private static final int OP_CARRIED = 24;

    private static final int SHOW_PLACE = 8;
    private static final int SHOW_CARRIED = 9;
    private static final int SHOW_MAILS = 10;
    private static final int SHOW_WORDS = 11;
    private static final int SHOW_WORDS_DONE = 12;
    private static final int SHOW_SLEEP = 13;

    private static final int WENT = 1;
    private static final int NO_GROUND = 0;
    private static final int ROBOT_IN_WAY = 2;
    private static final int ALREADY_THERE = 4;

    private static final int DIRECTIONS = 4;
    private static final int DIRECTION_MASK = 3;
    private static final int[] EAST_BY = {0, 1, 0, -1};
    private static final int[] SOUTH_BY = {-1, 0, 1, 0};

    private final Land land;
    private final Robot[] robots;
    private int clock;
    private int lastRan;

    public RobotWorld(int w, int h, int most, int longest, int mails) {
        land = new Land(bounded(w, MOST_SIDE), bounded(h, MOST_SIDE));
        robots = new Robot[bounded(most, MOST_ROBOTS)];
        int words = bounded(longest, MOST_WORDS);
        int boxSize = bounded(mails, MOST_MAILS);
        for (int number = 0; number < robots.length; number++) {
            robots[number] = new Robot(number, words, boxSize);
        }
        startOver();
    }

    public void init() {
        startOver();
    }

    public boolean setWall(int x, int y, boolean on) {
        if (!land.isInside(x, y) || robotOn(x, y) != null) {
            return false;
        }
        land.changeWall(x, y, on);
        return true;
    }

    public boolean putItem(int x, int y) {
        return land.addItem(x, y);
    }

    public int spawn(int x, int y) {
        if (!land.isOpen(x, y)) {
            return BAD;
        }
        if (robotOn(x, y) != null) {
            return TAKEN;
        }
        for (int number = 0; number < robots.length; number++) {
            if (robots[number].state == ABSENT) {
                robots[number].appear(x, y);
                return number;
            }
        }
        return FULL;
    }

    public boolean load(int id, int word) {
        Robot robot = robotOf(id);
        return robot != null && robot.state == NEW && robot.addWord(word);
    }

    public int startRobot(int id) {
        Robot robot = robotOf(id);
        if (robot == null || robot.state != NEW) {
            return BAD;
        }
        robot.state = READY;
        return 1;
    }

    public int tick() {
        for (int number = 0; number < robots.length; number++) {
            robots[number].sleepOn();
        }
        Robot robot = nextReady();
        if (robot != null) {
            lastRan = robot.number;
            if (robot.mustFail()) {
                robot.state = FAILED;
            } else {
                doWord(robot);
            }
        }
        clock++;
        return robot == null ? NONE : robot.number;
    }

    public int runTicks(int n) {
        if (n < 0 || n > MOST_TICKS) {
            return BAD;
        }
        int ran = 0;
        for (int i = 0; i < n; i++) {
            if (tick() != NONE) {
                ran++;
            }
        }
        return ran;
    }

    public int kill(int id) {
        Robot robot = robotOf(id);
        if (robot == null) {
            return BAD;
        }
        int had = robot.carried;
        for (int i = 0; i < had; i++) {
            land.addItem(robot.x, robot.y);
        }
        robot.state = ABSENT;
        return had;
    }

    public int robotX(int id) {
        Robot robot = robotOf(id);
        return robot == null ? NONE : robot.x;
    }

    public int robotY(int id) {
        Robot robot = robotOf(id);
        return robot == null ? NONE : robot.y;
    }

    public int robotState(int id) {
        return isNumber(id) ? robots[id].state : NONE;
    }

    public int reg(int id, int r) {
        Robot robot = robotOf(id);
        return robot == null ? 0 : robot.show(r);
    }

    public int at(int x, int y) {
        Robot robot = robotOn(x, y);
        int content = land.contentOf(x, y);
        return robot == null ? content : content + ROBOT_UNIT * (robot.number + 1);
    }

    public int pathLength(int x0, int y0, int x1, int y1) {
        return land.wayLength(x0, y0, x1, y1);
    }

    public int now() {
        return clock;
    }

    public void setClock(int clock) {
        this.clock = clock;
    }

    private static int bounded(int value, int most) {
        return Math.max(1, Math.min(value, most));
    }

    private void startOver() {
        land.clear();
        for (int number = 0; number < robots.length; number++) {
            robots[number].state = ABSENT;
        }
        clock = 0;
        lastRan = robots.length - 1;
    }

    private boolean isNumber(int id) {
        return id >= 0 && id < robots.length;
    }

    /** Null where there is no robot of that number. */
    private Robot robotOf(int id) {
        return isNumber(id) && robots[id].state != ABSENT ? robots[id] : null;
    }

    /** Null where no robot stands. */
    private Robot robotOn(int x, int y) {
        for (int number = 0; number < robots.length; number++) {
            Robot robot = robots[number];
            if (robot.state != ABSENT && robot.x == x && robot.y == y) {
                return robot;
            }
        }
        return null;
    }

    /** Null if none is READY. The one that ran last comes last. */
    private Robot nextReady() {
        int number = lastRan;
        for (int i = 0; i < robots.length; i++) {
            number = isNumber(number + 1) ? number + 1 : 0;
            if (robots[number].state == READY) {
                return robots[number];
            }
        }
        return null;
    }

    /** To be asked only of a robot whose word does not fail. */
    private void doWord(Robot robot) {
        int word = robot.program[robot.place];
        int[] registers = robot.registers;
        int op = opOf(word);
        int r = rOf(word);
        int s = sOf(word);
        int n = word >> 16;
        int a = registers[r];
        int b = registers[s];
        int next = robot.place + 1;
        switch (op) {
            case OP_END -> robot.state = DONE;
            case OP_JUMP -> next = n;
            case OP_JUMP_IF_ZERO -> next = a == 0 ? n : next;
            case OP_JUMP_IF_NOT_ZERO -> next = a != 0 ? n : next;
            case OP_GO -> registers[s] = go(robot, a & DIRECTION_MASK);
            case OP_LOOK -> registers[s] = look(robot, a & DIRECTION_MASK);
            case OP_TAKE -> registers[r] = take(robot);
            case OP_LAY -> registers[r] = lay(robot);
            case OP_SEND -> registers[r] = send(a, b);
            case OP_RECEIVE -> next = receive(robot, r) ? next : robot.place;
            case OP_SLEEP -> robot.fallAsleep(a);
            case OP_WAY -> registers[r] = land.firstStep(robot.x, robot.y, a, b);
            case OP_WHERE -> {
                registers[r] = robot.x;
                registers[s] = robot.y;
            }
            case OP_NUMBER -> registers[r] = robot.number;
            case OP_CLOCK -> registers[r] = clock;
            case OP_CARRIED -> registers[r] = robot.carried;
            default -> registers[r] = calculated(op, a, b, n);
        }
        robot.place = next;
        robot.wordsDone++;
    }

    private static int opOf(int word) {
        return word & 0xFF;
    }

    private static int rOf(int word) {
        return word >> 8 & 0xF;
    }

    private static int sOf(int word) {
        return word >> 12 & 0xF;
    }

    /** The divisor is not 0: such a word has failed before. */
    private static int calculated(int op, int a, int b, int n) {
        return switch (op) {
            case OP_SET -> n;
            case OP_COPY -> b;
            case OP_ADD -> a + b;
            case OP_SUBTRACT -> a - b;
            case OP_MULTIPLY -> a * b;
            case OP_DIVIDE -> a / b;
            case OP_REST -> a % b;
            case OP_BELOW -> a < b ? 1 : 0;
            case OP_SAME -> a == b ? 1 : 0;
            default -> a;
        };
    }

    private int go(Robot robot, int direction) {
        int x = robot.x + EAST_BY[direction];
        int y = robot.y + SOUTH_BY[direction];
        if (!land.isOpen(x, y)) {
            return NO_GROUND;
        }
        if (robotOn(x, y) != null) {
            return ROBOT_IN_WAY;
        }
        robot.x = x;
        robot.y = y;
        return WENT;
    }

    private int look(Robot robot, int direction) {
        return at(robot.x + EAST_BY[direction], robot.y + SOUTH_BY[direction]);
    }

    private int take(Robot robot) {
        if (robot.carried >= MOST_CARRIED || !land.removeItem(robot.x, robot.y)) {
            return 0;
        }
        robot.carried++;
        return 1;
    }

    private int lay(Robot robot) {
        if (robot.carried <= 0 || !land.addItem(robot.x, robot.y)) {
            return 0;
        }
        robot.carried--;
        return 1;
    }

    private int send(int id, int value) {
        Robot receiver = robotOf(id);
        if (receiver == null || !receiver.takesMail() || !receiver.box.add(value)) {
            return 0;
        }
        if (receiver.state == WAITING) {
            receiver.state = READY;
        }
        return 1;
    }

    /** Whether a number was there; if not, the robot waits, to do the same word again. */
    private static boolean receive(Robot robot, int r) {
        if (robot.box.count == 0) {
            robot.state = WAITING;
            return false;
        }
        robot.registers[r] = robot.box.removeFirst();
        return true;
    }

    /** The squares, what lies on them, and the ways over them. */
    private static final class Land {
        private static final int NO_SQUARE = -1;
        private static final int UNREACHED = NONE;
        /** A queued square is x with y above these bits, so that no division parts them again. */
        private static final int X_BITS = 5;
        private static final int X_MASK = 31;

        final int width;
        final int height;
        /** WALL, or the number of items. */
        final int[] contents;
        /** How far each square is from the goal, as of the last measuring. */
        final int[] steps;
        final int[] queue;
        /** The queued form of the goal; kept while no wall changes, as robots ask again and again. */
        int goal;

        Land(int width, int height) {
            this.width = width;
            this.height = height;
            contents = new int[width * height];
            steps = new int[width * height];
            queue = new int[width * height];
            goal = NO_SQUARE;
        }

        void clear() {
            Arrays.fill(contents, 0);
            goal = NO_SQUARE;
        }

        boolean isInside(int x, int y) {
            return x >= 0 && x < width && y >= 0 && y < height;
        }

        boolean isOpen(int x, int y) {
            return x >= 0 && x < width && y >= 0 && y < height
                    && contents[y * width + x] != WALL;
        }

        int contentOf(int x, int y) {
            return isInside(x, y) ? contents[y * width + x] : OUTSIDE;
        }

        void changeWall(int x, int y, boolean on) {
            if (!isInside(x, y)) {
                return;
            }
            int square = y * width + x;
            if (on) {
                contents[square] = WALL;
            } else if (contents[square] == WALL) {
                contents[square] = 0;
            }
            goal = NO_SQUARE;
        }

        boolean addItem(int x, int y) {
            if (!isOpen(x, y)) {
                return false;
            }
            int square = y * width + x;
            if (contents[square] >= MOST_ITEMS) {
                return false;
            }
            contents[square]++;
            return true;
        }

        boolean removeItem(int x, int y) {
            if (!isOpen(x, y)) {
                return false;
            }
            int square = y * width + x;
            if (contents[square] <= 0) {
                return false;
            }
            contents[square]--;
            return true;
        }

        /** No wall and nothing outside is ever reached, so the start needs no test of its own. */
        int wayLength(int x0, int y0, int x1, int y1) {
            if (!isOpen(x1, y1)) {
                return NONE;
            }
            measureFrom(x1, y1);
            return stepsOf(x0, y0);
        }

        int firstStep(int x0, int y0, int x1, int y1) {
            int length = wayLength(x0, y0, x1, y1);
            if (length == 0) {
                return ALREADY_THERE;
            }
            for (int direction = 0; length > 0 && direction < DIRECTIONS; direction++) {
                if (stepsOf(x0 + EAST_BY[direction], y0 + SOUTH_BY[direction]) == length - 1) {
                    return direction;
                }
            }
            return NONE;
        }

        int stepsOf(int x, int y) {
            return isInside(x, y) ? steps[y * width + x] : UNREACHED;
        }

        /** To be asked only of an open square. Each is queued once, so the queue has room for all. */
        void measureFrom(int x, int y) {
            int wanted = y << X_BITS | x;
            if (goal == wanted) {
                return;
            }
            goal = wanted;
            Arrays.fill(steps, UNREACHED);
            steps[y * width + x] = 0;
            queue[0] = wanted;
            int queued = 1;
            for (int i = 0; i < queued && i < queue.length; i++) {
                int fromX = queue[i] & X_MASK;
                int fromY = queue[i] >> X_BITS;
                int further = steps[fromY * width + fromX] + 1;
                for (int direction = 0; direction < DIRECTIONS; direction++) {
                    int nextX = fromX + EAST_BY[direction];
                    int nextY = fromY + SOUTH_BY[direction];
                    if (isOpen(nextX, nextY) && queued < queue.length
                            && steps[nextY * width + nextX] == UNREACHED) {
                        steps[nextY * width + nextX] = further;
                        queue[queued] = nextY << X_BITS | nextX;
                        queued++;
                    }
                }
            }
        }
    }

    /** One of the numbers that a robot may have; it is ABSENT until a robot of that number comes. */
    private static final class Robot {
        final int number;
        final int[] program;
        final int[] registers;
        final Box box;
        int state;
        int x;
        int y;
        int place;
        int words;
        int wordsDone;
        int carried;
        int sleepLeft;

        Robot(int number, int longest, int mails) {
            this.number = number;
            program = new int[longest];
            registers = new int[REGISTERS];
            box = new Box(mails);
        }

        void appear(int x, int y) {
            this.x = x;
            this.y = y;
            state = NEW;
            place = 0;
            words = 0;
            wordsDone = 0;
            carried = 0;
            sleepLeft = 0;
            Arrays.fill(registers, 0);
            box.count = 0;
        }

        boolean addWord(int word) {
            if (words >= program.length) {
                return false;
            }
            program[words] = word;
            words++;
            return true;
        }

        /** Whether it is at no word, or at one that can't be done. */
        boolean mustFail() {
            if (place < 0 || place >= words || place >= program.length) {
                return true;
            }
            int word = program[place];
            int op = opOf(word);
            int s = sOf(word);
            if (op > OP_CARRIED || rOf(word) >= REGISTERS || s >= REGISTERS) {
                return true;
            }
            return (op == OP_DIVIDE || op == OP_REST) && registers[s] == 0;
        }

        boolean takesMail() {
            return state == READY || state == ASLEEP || state == WAITING;
        }

        void fallAsleep(int ticks) {
            if (ticks > 0) {
                state = ASLEEP;
                sleepLeft = ticks;
            }
        }

        /** The tick that finds no ticks left wakes it; each one before is slept through. */
        void sleepOn() {
            if (state != ASLEEP) {
                return;
            }
            if (sleepLeft > 0) {
                sleepLeft--;
            } else {
                state = READY;
            }
        }

        int show(int r) {
            if (r >= 0 && r < registers.length) {
                return registers[r];
            }
            return switch (r) {
                case SHOW_PLACE -> place;
                case SHOW_CARRIED -> carried;
                case SHOW_MAILS -> box.count;
                case SHOW_WORDS -> words;
                case SHOW_WORDS_DONE -> wordsDone;
                case SHOW_SLEEP -> sleepLeft;
                default -> 0;
            };
        }
    }

    /** Numbers that were sent to a robot, the oldest first. */
    private static final class Box {
        final int[] numbers;
        int count;

        Box(int size) {
            numbers = new int[size];
        }

        boolean add(int value) {
            if (count >= numbers.length) {
                return false;
            }
            numbers[count] = value;
            count++;
            return true;
        }

        /** To be asked only of a box that is not empty; an empty one answers 0. */
        int removeFirst() {
            if (count <= 0 || count > numbers.length) {
                return 0;
            }
            int first = numbers[0];
            count--;
            System.arraycopy(numbers, 1, numbers, 0, count);
            return first;
        }
    }
}
