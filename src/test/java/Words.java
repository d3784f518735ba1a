/** Writes the words of programs, and puts robots with programs into a world. */
final class Words {
    static final int END = 0, SET = 1, COPY = 2, ADD = 3, LESS = 4, TIMES = 5, DIVIDE = 6, REST = 7;
    static final int BELOW = 8, SAME = 9, JUMP = 10, JUMP_ZERO = 11, JUMP_NOT_ZERO = 12;
    static final int GO = 13, LOOK = 14, TAKE = 15, LAY = 16, SEND = 17, RECEIVE = 18, SLEEP = 19;
    static final int WAY = 20, WHERE = 21, NUMBER = 22, CLOCK = 23, CARRIED = 24;

    static final int PLACE = 8, LOAD = 9, MAILS = 10, LENGTH = 11, WORDS_DONE = 12, SLEEP_LEFT = 13;

    static final int ABSENT = 0, NEW = 1, READY = 2, ASLEEP = 3, WAITING = 4, DONE = 5, FAILED = 6;

    /** How many words big() writes. */
    static final int BIG = 10;

    private Words() {
    }

    static int word(int op, int r, int s, int n) {
        return op | r << 8 | s << 12 | n << 16;
    }

    static int word(int op, int r, int s) {
        return word(op, r, s, 0);
    }

    static int set(int r, int n) {
        return word(SET, r, 0, n);
    }

    /** Words that bring any number of 32 bits into a register other than 7, which they use up. */
    static int[] big(int register, int value) {
        return new int[] {
            set(register, value >> 16), set(7, 16384), word(TIMES, register, 7), set(7, 4),
            word(TIMES, register, 7), set(7, value >> 1 & 0x7FFF), word(ADD, register, 7),
            word(ADD, register, 7), set(7, value & 1), word(ADD, register, 7),
        };
    }

    static int[] joined(int[]... programs) {
        return java.util.Arrays.stream(programs).flatMapToInt(java.util.Arrays::stream).toArray();
    }

    static int[] program(int... words) {
        return words;
    }

    /** Makes a robot there with that program and starts it; answers its number. */
    static int start(RobotWorld world, int x, int y, int... program) {
        int id = make(world, x, y, program);
        if (world.startRobot(id) != 1) {
            throw new IllegalStateException("a robot did not start");
        }
        return id;
    }

    /** Makes a robot there with that program, and leaves it NEW; answers its number. */
    static int make(RobotWorld world, int x, int y, int... program) {
        int id = world.spawn(x, y);
        for (int word : program) {
            if (!world.load(id, word)) {
                throw new IllegalStateException("a word was not taken");
            }
        }
        return id;
    }

    static void putItems(RobotWorld world, int x, int y, int items) {
        for (int i = 0; i < items; i++) {
            if (!world.putItem(x, y)) {
                throw new IllegalStateException("an item was not taken");
            }
        }
    }
}
