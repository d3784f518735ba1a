import java.util.ArrayDeque;
import java.util.ArrayList;
import java.util.List;
import java.util.TreeMap;

/**
 * The document's words once more, written the slow and roundabout way and in other forms than the
 * class has (maps, queues, ticks counted from the start), so that the two seldom err alike.
 */
final class SlowWorld {
    private static final class Bot {
        final long[] registers = new long[8];
        final List<Integer> program = new ArrayList<>();
        final ArrayDeque<Integer> box = new ArrayDeque<>();
        int x, y, state = Words.NEW, place, items, wordsDone;
        long lastTickAsleep;
    }

    private final int w, h, most, longest, mails;
    private final TreeMap<Integer, Bot> bots = new TreeMap<>();
    private boolean[][] wall;
    private int[][] items;
    private int clock;
    private int ranLast;
    private long ticks;

    SlowWorld(int w, int h, int most, int longest, int mails) {
        this.w = within(w, 32);
        this.h = within(h, 32);
        this.most = within(most, 8);
        this.longest = within(longest, 100);
        this.mails = within(mails, 16);
        init();
    }

    private static int within(int value, int bound) {
        return value < 1 ? 1 : value > bound ? bound : value;
    }

    void init() {
        wall = new boolean[w][h];
        items = new int[w][h];
        bots.clear();
        clock = 0;
        ranLast = most - 1;
        ticks = 0;
    }

    private boolean outside(int x, int y) {
        return x < 0 || y < 0 || x >= w || y >= h;
    }

    private int botAt(int x, int y) {
        for (int id : bots.keySet()) {
            if (bots.get(id).x == x && bots.get(id).y == y) {
                return id;
            }
        }
        return -1;
    }

    boolean setWall(int x, int y, boolean on) {
        if (outside(x, y) || botAt(x, y) >= 0) {
            return false;
        }
        wall[x][y] = on;
        items[x][y] = on ? 0 : items[x][y];
        return true;
    }

    boolean putItem(int x, int y) {
        if (outside(x, y) || wall[x][y] || items[x][y] == 99) {
            return false;
        }
        items[x][y]++;
        return true;
    }

    int spawn(int x, int y) {
        if (outside(x, y) || wall[x][y]) {
            return -2;
        }
        if (botAt(x, y) >= 0) {
            return -4;
        }
        int id = 0;
        while (bots.containsKey(id)) {
            id++;
        }
        if (id == most) {
            return -3;
        }
        Bot bot = new Bot();
        bot.x = x;
        bot.y = y;
        bots.put(id, bot);
        return id;
    }

    boolean load(int id, int word) {
        Bot bot = bots.get(id);
        return bot != null && bot.state == Words.NEW && bot.program.size() < longest
                && bot.program.add(word);
    }

    int startRobot(int id) {
        Bot bot = bots.get(id);
        if (bot == null || bot.state != Words.NEW) {
            return -2;
        }
        bot.state = Words.READY;
        return 1;
    }

    int tick() {
        ticks++;
        for (Bot bot : bots.values()) {
            if (bot.state == Words.ASLEEP && ticks > bot.lastTickAsleep) {
                bot.state = Words.READY;
            }
        }
        int ran = -1;
        for (int behind = most; behind >= 1; behind--) {
            int id = (ranLast + behind) % most;
            if (bots.containsKey(id) && bots.get(id).state == Words.READY) {
                ran = id;
            }
        }
        if (ran >= 0) {
            ranLast = ran;
            run(ran, bots.get(ran));
        }
        clock++;
        return ran;
    }

    int runTicks(int n) {
        if (n < 0 || n > 10000) {
            return -2;
        }
        int count = 0;
        for (int i = 0; i < n; i++) {
            count += tick() >= 0 ? 1 : 0;
        }
        return count;
    }

    private void run(int id, Bot bot) {
        if (bot.place < 0 || bot.place >= bot.program.size()) {
            bot.state = Words.FAILED;
            return;
        }
        int word = bot.program.get(bot.place);
        int op = word & 255;
        int r = word >>> 8 & 15;
        int s = word >>> 12 & 15;
        int n = (short) (word >>> 16);
        boolean fails = op > 24 || r > 7 || s > 7;
        if (fails || (op == 6 || op == 7) && bot.registers[s] == 0) {
            bot.state = Words.FAILED;
            return;
        }
        bot.wordsDone++;
        bot.place++;
        if (op <= 9) {
            reckon(bot, op, r, s, n);
        } else if (op <= 12) {
            boolean zero = bot.registers[r] == 0;
            if (op == 10 || op == 11 && zero || op == 12 && !zero) {
                bot.place = n;
            }
        } else if (op <= 16) {
            handle(bot, op, r, s);
        } else if (op <= 19) {
            talk(bot, op, r, s);
        } else {
            ask(id, bot, op, r, s);
        }
    }

    private void reckon(Bot bot, int op, int r, int s, int n) {
        long a = bot.registers[r];
        long b = bot.registers[s];
        if (op == 0) {
            bot.state = Words.DONE;
            return;
        }
        long[] results = {0, n, b, a + b, a - b, a * b, b == 0 ? 0 : a / b, b == 0 ? 0 : a % b,
            a < b ? 1 : 0, a == b ? 1 : 0};
        bot.registers[r] = (int) results[op];
    }

    private int[] beside(Bot bot, long direction) {
        int which = (int) Math.floorMod(direction, 4L);
        int x = bot.x + (which == 1 ? 1 : which == 3 ? -1 : 0);
        int y = bot.y + (which == 2 ? 1 : which == 0 ? -1 : 0);
        return new int[] {x, y};
    }

    private void handle(Bot bot, int op, int r, int s) {
        int[] next = beside(bot, bot.registers[r]);
        int seen = at(next[0], next[1]);
        if (op == 13) {
            bot.registers[s] = seen < 0 ? 0 : seen >= 256 ? 2 : 1;
            if (seen >= 0 && seen < 256) {
                bot.x = next[0];
                bot.y = next[1];
            }
        } else if (op == 14) {
            bot.registers[s] = seen;
        } else {
            int moved = op == 15 ? 1 : -1;
            int carried = bot.items + moved;
            int left = items[bot.x][bot.y] - moved;
            boolean can = carried >= 0 && carried <= 9 && left >= 0 && left <= 99;
            bot.items = can ? carried : bot.items;
            items[bot.x][bot.y] = can ? left : items[bot.x][bot.y];
            bot.registers[r] = can ? 1 : 0;
        }
    }

    private void talk(Bot bot, int op, int r, int s) {
        if (op == 17) {
            Bot other = bots.get((int) bot.registers[r]);
            boolean can = other != null && other.state >= 2 && other.state <= 4
                    && other.box.size() < mails;
            if (can) {
                other.box.addLast((int) bot.registers[s]);
                other.state = other.state == Words.WAITING ? Words.READY : other.state;
            }
            bot.registers[r] = can ? 1 : 0;
        } else if (op == 18) {
            if (bot.box.isEmpty()) {
                bot.state = Words.WAITING;
                bot.place--;
            } else {
                bot.registers[r] = bot.box.removeFirst();
            }
        } else if (bot.registers[r] > 0) {
            bot.state = Words.ASLEEP;
            bot.lastTickAsleep = ticks + bot.registers[r];
        }
    }

    private void ask(int id, Bot bot, int op, int r, int s) {
        if (op == 20) {
            bot.registers[r] = step(bot, (int) bot.registers[r], (int) bot.registers[s]);
        } else if (op == 21) {
            bot.registers[r] = bot.x;
            bot.registers[s] = bot.y;
        } else {
            bot.registers[r] = op == 22 ? id : op == 23 ? clock : bot.items;
        }
    }

    private int step(Bot bot, int x, int y) {
        int whole = pathLength(bot.x, bot.y, x, y);
        if (whole <= 0) {
            return whole == 0 ? 4 : -1;
        }
        for (int direction = 0; direction < 4; direction++) {
            int[] next = beside(bot, direction);
            int rest = pathLength(next[0], next[1], x, y);
            if (rest >= 0 && rest == whole - 1) {
                return direction;
            }
        }
        throw new IllegalStateException("a way without a first step");
    }

    int kill(int id) {
        Bot bot = bots.remove(id);
        if (bot == null) {
            return -2;
        }
        items[bot.x][bot.y] = Math.min(99, items[bot.x][bot.y] + bot.items);
        return bot.items;
    }

    int robotX(int id) {
        return bots.containsKey(id) ? bots.get(id).x : -1;
    }

    int robotY(int id) {
        return bots.containsKey(id) ? bots.get(id).y : -1;
    }

    int robotState(int id) {
        if (id < 0 || id >= most) {
            return -1;
        }
        return bots.containsKey(id) ? bots.get(id).state : 0;
    }

    int reg(int id, int r) {
        Bot bot = bots.get(id);
        if (bot == null || r < 0 || r > 13) {
            return 0;
        }
        if (r < 8) {
            return (int) bot.registers[r];
        }
        int asleep = bot.state == Words.ASLEEP ? (int) (bot.lastTickAsleep - ticks) : 0;
        int[] rest = {bot.place, bot.items, bot.box.size(), bot.program.size(), bot.wordsDone, asleep};
        return rest[r - 8];
    }

    int at(int x, int y) {
        if (outside(x, y)) {
            return -2;
        }
        return wall[x][y] ? -1 : items[x][y] + 256 * (botAt(x, y) + 1);
    }

    /** Spreads distances over the whole world until nothing gets nearer any more. */
    int pathLength(int x0, int y0, int x1, int y1) {
        if (at(x0, y0) < 0 || at(x1, y1) < 0) {
            return -1;
        }
        int far = 5000;
        int[][] distance = new int[w + 2][h + 2];
        for (int[] column : distance) {
            java.util.Arrays.fill(column, far);
        }
        distance[x0 + 1][y0 + 1] = 0;
        boolean nearer = true;
        while (nearer) {
            nearer = false;
            for (int x = 1; x <= w; x++) {
                for (int y = 1; y <= h; y++) {
                    int best = 1 + Math.min(Math.min(distance[x - 1][y], distance[x + 1][y]),
                            Math.min(distance[x][y - 1], distance[x][y + 1]));
                    if (!wall[x - 1][y - 1] && best < distance[x][y]) {
                        distance[x][y] = best;
                        nearer = true;
                    }
                }
            }
        }
        return distance[x1 + 1][y1 + 1] >= far ? -1 : distance[x1 + 1][y1 + 1];
    }

    int now() {
        return clock;
    }

    void setClock(int to) {
        clock = to;
    }
}
