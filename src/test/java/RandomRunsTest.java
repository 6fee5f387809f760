import java.util.NoSuchElementException;
import java.util.Random;

/** Runs of 512 random calls at most: every answer is compared with that of the plain model. */
public final class RandomRunsTest {
    private static final int RUNS = 500;
    private static final int CALLS = 512;
    private static final int THROWN = Integer.MIN_VALUE;
    private static final int[] WILD = {Integer.MIN_VALUE, -1000000, -3, -2, -1, 0, 1, 2, 3, 4, 5, 1 << 20, Integer.MAX_VALUE};
    /** How often things that are rare befell, so that a change of the runs that loses one is seen. */
    private static final int[] SEEN = new int[12];
    private static final int[] DELIVERED = new int[8];
    private static final int[] STATUS = new int[6];

    private final Random random;
    private final StringBuilder told = new StringBuilder();
    private final LogCluster x;
    private final PlainModel y;
    private final int servers;
    private final int faults;
    private final int keys;
    private boolean wrong;
    private int lastGot;

    private RandomRunsTest(long seed) {
        random = new Random(seed);
        servers = 3 + random.nextInt(7);
        int r = 1 + random.nextInt(4);
        int z = random.nextInt(3) == 0 ? 5 + random.nextInt(13) : 6 + random.nextInt(3);
        int m = random.nextInt(3) == 0 ? 4 + random.nextInt(14) : 5;
        faults = 1 + random.nextInt(12);
        keys = random.nextBoolean() ? 64 : 4 + random.nextInt(12);
        x = new LogCluster(servers, r, z, m);
        y = new PlainModel(servers, r, z, m);
        told.append("new LogCluster(" + servers + ", " + r + ", " + z + ", " + m + ")\n");
    }

    private void same(String call, int got, int due) {
        lastGot = got;
        told.append(call).append(" -> ").append(got).append('\n');
        if (got != due && !wrong) {
            wrong = true;
            told.append("    due is ").append(due).append('\n');
        }
    }

    private static int bit(boolean b) {
        return b ? 1 : 0;
    }

    private int place() {
        int full = y.count(1);
        if (full == 0 || random.nextInt(40) == 0) {
            return random.nextInt(43) - 1;
        }
        int which = random.nextInt(full);
        for (int i = 0; i < 40; i++) {
            if (y.net[i] != null && which-- == 0) {
                return i;
            }
        }
        return 0;
    }

    private void doSend() {
        int c = random.nextInt(60) == 0 ? 6 : random.nextInt(6);
        int kind = random.nextInt(60) == 0 ? 4 : random.nextInt(8) < 4 ? 1 : random.nextInt(4);
        int key = random.nextInt(60) == 0 ? 64 : random.nextInt(keys) * (keys == 64 ? 1 : 4) % 64;
        int a = random.nextInt(1000) - 100;
        int b = random.nextInt(3) == 0 ? 0 : random.nextInt(12);
        if (kind == 2 && key < 64 && y.map[key / 8] >= 0 && random.nextBoolean()) {
            b = y.peek(y.map[key / 8], key, 1);
        }
        same("send(" + c + ", " + kind + ", " + key + ", " + a + ", " + b + ")", x.send(c, kind, key, a, b), y.send(c, kind, key, a, b));
    }

    private void doDeliver() {
        int p = place();
        if (y.at(p) != null && y.at(p).answer) {
            STATUS[y.at(p).status]++;
        }
        same("deliver(" + p + ")", x.deliver(p), y.deliver(p));
        if (lastGot >= 0) {
            DELIVERED[lastGot]++;
        }
    }

    private void doFault() {
        int s = random.nextInt(servers + 1) - random.nextInt(2);
        switch (random.nextInt(9)) {
            case 0: same("crash(" + s + ")", bit(x.crash(s)), bit(y.crash(s))); break;
            case 1: same("restart(" + s + ")", bit(x.restart(s)), bit(y.restart(s))); break;
            case 2: same("sleep(" + s + ")", bit(x.sleep(s)), bit(y.sleep(s))); break;
            case 3: same("wake(" + s + ")", bit(x.wake(s)), bit(y.wake(s))); break;
            case 4: {
                int j = random.nextInt(6) - 2;
                same("cut(" + s + ", " + j + ")", bit(x.cut(s, j)), bit(y.cut(s, j)));
                break;
            }
            case 5: {
                boolean away = random.nextInt(4) == 0;
                x.coordinator(away);
                y.coordinator(away);
                told.append("coordinator(" + away + ")\n");
                break;
            }
            case 6: {
                int r = random.nextInt(servers);
                same("restart(" + r + ")", bit(x.restart(r)), bit(y.restart(r)));
                same("wake(" + r + ")", bit(x.wake(r)), bit(y.wake(r)));
                break;
            }
            default: {
                int n = random.nextInt(30) == 0 ? random.nextInt(120) - 10 : random.nextInt(4);
                same("tick(" + n + ")", x.tick(n), y.tick(n));
            }
        }
    }

    private void doNet() {
        int p = place();
        int c = random.nextInt(7);
        int n = random.nextInt(8) == 0 ? random.nextInt(43) : 1 + random.nextInt(8);
        switch (random.nextInt(5)) {
            case 0: same("drop(" + p + ")", bit(x.drop(p)), bit(y.drop(p))); break;
            case 1: same("twice(" + p + ")", x.twice(p), y.twice(p)); break;
            default: same("again(" + c + ", " + n + ")", x.again(c, n), y.again(c, n));
        }
    }

    private int wild() {
        return random.nextBoolean() ? WILD[random.nextInt(WILD.length)] : random.nextInt(70) - 3;
    }

    /** Any call with arguments of any size. */
    private void doWild() {
        int a = wild();
        int b = wild();
        int c = wild();
        String two = "(" + a + ", " + b + ")";
        switch (random.nextInt(14)) {
            case 0: same("send(" + a + ", " + b + ", " + c + ", " + a + ", " + b + ")", x.send(a, b, c, a, b), y.send(a, b, c, a, b)); break;
            case 1: same("again" + two, x.again(a, b), y.again(a, b)); break;
            case 2: same("deliver(" + a + ")", x.deliver(a), y.deliver(a)); break;
            case 3: same("drop(" + a + ")", bit(x.drop(a)), bit(y.drop(a))); break;
            case 4: same("twice(" + a + ")", x.twice(a), y.twice(a)); break;
            case 5: same("message" + two, ask(x, a, b), ask(y, a, b)); break;
            case 6: same("got(" + a + ", " + b + ", " + c + ")", x.got(a, b, c), y.got(a, b, c)); break;
            case 7: same("cut" + two, bit(x.cut(a, b)), bit(y.cut(a, b))); break;
            case 8: same("tick(" + a + ")", x.tick(a), y.tick(a)); break;
            case 9: same("server" + two, x.server(a, b), y.server(a, b)); break;
            case 10: same("segment(" + a + ", " + b + ", " + c + ")", x.segment(a, b, c), y.segment(a, b, c)); break;
            case 11: same("peek(" + a + ", " + b + ", " + c + ")", x.peek(a, b, c), y.peek(a, b, c)); break;
            case 12: same("owner(" + a + ")", x.owner(a), y.owner(a)); break;
            default: same("count(" + a + ")", x.count(a), y.count(a));
        }
    }

    private static int ask(LogCluster c, int p, int w) {
        try {
            return c.message(p, w);
        } catch (NoSuchElementException e) {
            return THROWN;
        }
    }

    private static int ask(PlainModel c, int p, int w) {
        try {
            return c.message(p, w);
        } catch (NoSuchElementException e) {
            return THROWN;
        }
    }

    /** All that can be asked about the state; these calls change nothing and are not of the 512. */
    private void compareAll() {
        int m = Math.max(4, Math.min(8, servers));
        for (int i = -1; i <= 12; i++) {
            same("count(" + i + ")", x.count(i), y.count(i));
        }
        for (int s = -1; s <= m; s++) {
            for (int w = -1; w <= 12; w++) {
                same("server(" + s + ", " + w + ")", x.server(s, w), y.server(s, w));
            }
            int k = random.nextInt(66) - 1;
            for (int w = -1; w <= 2; w++) {
                same("peek(" + s + ", " + k + ", " + w + ")", x.peek(s, k, w), y.peek(s, k, w));
            }
            for (int g = -1; g <= y.server(s, 4); g++) {
                int w = random.nextInt(8) - 1;
                same("segment(" + s + ", " + g + ", " + w + ")", x.segment(s, g, w), y.segment(s, g, w));
            }
        }
        for (int t = -1; t <= 8; t++) {
            same("owner(" + t + ")", x.owner(t), y.owner(t));
        }
        for (int c = -1; c <= 6; c++) {
            same("acked(" + c + ")", x.acked(c), y.acked(c));
            int n = random.nextInt(12);
            int w = random.nextInt(5) - 1;
            same("got(" + c + ", " + n + ", " + w + ")", x.got(c, n, w), y.got(c, n, w));
        }
        int p = place();
        int w = random.nextInt(8) - 1;
        same("message(" + p + ", " + w + ")", ask(x, p, w), ask(y, p, w));
    }

    private boolean run() {
        for (int i = 0; i < CALLS && !wrong; i++) {
            int kind = random.nextInt(30);
            if (random.nextInt(50) == 0) {
                doWild();
            } else if (kind < faults) {
                doFault();
            } else if (kind < faults + 3) {
                doNet();
            } else if (random.nextInt(3) == 0) {
                doSend();
            } else {
                doDeliver();
            }
            if (!wrong && random.nextInt(4) == 0) {
                int from = told.length();
                compareAll();
                if (!wrong) {
                    told.setLength(from);
                }
            }
        }
        for (int i = 0; i < SEEN.length; i++) {
            SEEN[i] += x.count(i);
        }
        return !wrong;
    }

    private static boolean allSeen(String name, int[] seen, int from) {
        boolean all = true;
        StringBuilder line = new StringBuilder(name);
        for (int i = 0; i < seen.length; i++) {
            line.append(' ').append(seen[i]);
            all &= i < from || seen[i] > 0;
        }
        System.out.println(line);
        return all;
    }

    public static void main(String[] args) {
        int bad = 0;
        for (int seed = 0; seed < RUNS && bad < 3; seed++) {
            RandomRunsTest run = new RandomRunsTest(seed);
            if (!run.run()) {
                bad++;
                System.out.println("seed " + seed + ":\n" + run.told);
            }
        }
        boolean all = allSeen("counts", SEEN, 0);
        DELIVERED[7] = 1;
        all &= allSeen("delivered", DELIVERED, 0);
        all &= allSeen("statuses", STATUS, 0);
        if (!all) {
            System.out.println("the runs do not come by everything any more");
        }
        System.out.println(bad == 0 ? "random runs are as due" : "random runs are not as due");
        if (bad != 0 || !all) {
            System.exit(1);
        }
    }
}
