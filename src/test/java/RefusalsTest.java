/** Calls that are refused: each answers what the document says, and changes nothing that can be asked. */
public final class RefusalsTest extends Check {
    private static final int[] FAR = {Integer.MIN_VALUE, Integer.MIN_VALUE + 1, -1000000, Integer.MAX_VALUE - 1, Integer.MAX_VALUE};
    private static final int SITUATIONS = 6;
    private static final int SERVERS = 5;
    private static final int REPLICAS = 2;

    private static LogCluster x;
    private static String before = "";
    /** The latest number of each client, whose REQUEST is of TABLET client. */
    private static int[] latest = new int[0];

    /** Everything that can be asked (more than 512 calls, but none of them changes anything). */
    private static String look() {
        StringBuilder told = new StringBuilder();
        for (int w = 0; w < 12; w++) {
            told.append(x.count(w)).append(' ');
        }
        for (int t = 0; t < 8; t++) {
            told.append(x.owner(t)).append(' ');
        }
        for (int s = 0; s < SERVERS; s++) {
            for (int w = 0; w < 12; w++) {
                told.append(x.server(s, w)).append(' ');
            }
            for (int k = 0; k < x.server(s, 4); k++) {
                for (int w = 0; w < 6; w++) {
                    told.append(x.segment(s, k, w)).append(' ');
                }
            }
            for (int k = 0; k < 64; k++) {
                told.append(x.peek(s, k, 0)).append(' ').append(x.peek(s, k, 1)).append(' ');
            }
        }
        for (int c = 0; c < 6; c++) {
            told.append(x.acked(c)).append(' ');
            for (int n = 1; n <= 40; n++) {
                told.append(x.got(c, n, 0)).append(' ').append(x.got(c, n, 1)).append(' ').append(x.got(c, n, 2)).append(' ');
            }
        }
        for (int p = 0; p < 40; p++) {
            for (int w = 0; w < 6; w++) {
                told.append(ask(x, p, w)).append(' ');
            }
        }
        return told.toString();
    }

    private static void refused(String call, int got, int want) {
        due(call, got, want);
        due(call + " changes nothing", look().equals(before), true);
    }

    private static void refused(String call, boolean got) {
        due(call, got, false);
        due(call + " changes nothing", look().equals(before), true);
    }

    /** 0 new; 1 some LOGS, a NET with gaps; 2 SERVERS in all states; 3 TABLETS without OWNER; 4 away; 5 a full NET. */
    private static void situation(int which) {
        x = new LogCluster(SERVERS, REPLICAS, 8, 5);
        latest = new int[6];
        if (which > 0) {
            for (int i = 0; i < 12; i++) {
                lose(x, i % 6, i % 4, i * 5, i, 0);
                take(x, i % 3, WRITE, i * 4, i, 0);
            }
            for (int i = 0; i < 6; i++) {
                latest[i] = x.send(i, WRITE, 8 * i, i, 0);
            }
            x.deliver(3);
            x.drop(1);
        }
        if (which >= 2) {
            x.crash(1);
            x.sleep(2);
            x.cut(3, 1);
        }
        if (which >= 3) {
            x.crash(4);
            x.tick(4);
        }
        x.coordinator(which == 4);
        while (which == 5 && x.count(1) < 40) {
            x.twice(0);
        }
        before = look();
        due("looking changes nothing", look().equals(before), true);
    }

    // ---- by wrong arguments

    private static int[] outside(int least, int most) {
        int[] all = new int[FAR.length + 2];
        System.arraycopy(FAR, 0, all, 0, FAR.length);
        all[FAR.length] = least - 1;
        all[FAR.length + 1] = most + 1;
        return all;
    }

    private static void wrongRequests() {
        part = "2 send: NONE: no such client, kind, key";
        for (int c : outside(0, 5)) {
            refused("client " + c, x.send(c, WRITE, 0, 1, 0), -1);
        }
        for (int k : outside(0, 3)) {
            refused("kind " + k, x.send(0, k, 0, 1, 0), -1);
        }
        for (int k : outside(0, 63)) {
            refused("key " + k, x.send(0, WRITE, k, 1, 0), -1);
        }
        part = "3 again: NONE: no such number";
        for (int c : outside(0, 5)) {
            refused("client " + c, x.again(c, 1), -1);
        }
        for (int n : outside(1, latest[0])) {
            refused("number " + n, x.again(0, n), -1);
        }
        refused("number 41", x.again(0, 41), -1);
    }

    private static void wrongPlaces() {
        int[] far = outside(0, 39);
        for (int i = -1; i < far.length; i++) {
            int p = i < 0 ? 1 : far[i];
            if (i < 0 && ask(x, 1, 0) != THROWN) {
                continue;
            }
            part = "4 deliver: NONE: there is none at that place";
            refused("deliver(" + p + ")", x.deliver(p), -1);
            part = "5 drop: false: there is none";
            refused("drop(" + p + ")", x.drop(p));
            part = "6 twice: NONE: there is none";
            refused("twice(" + p + ")", x.twice(p), -1);
            part = "7 message: NoSuchElementException: there is none";
            refused("message(" + p + ", 0)", ask(x, p, 0), THROWN);
        }
        part = "7 message: NoSuchElementException: another what";
        for (int w : outside(0, 5)) {
            refused("message(0, " + w + ")", ask(x, 0, w), THROWN);
        }
    }

    private static void wrongServers() {
        for (int s : outside(0, SERVERS - 1)) {
            part = "10 to 14: false: no such SERVER";
            refused("crash(" + s + ")", x.crash(s));
            refused("restart(" + s + ")", x.restart(s));
            refused("sleep(" + s + ")", x.sleep(s));
            refused("wake(" + s + ")", x.wake(s));
            refused("cut(" + s + ", 0)", x.cut(s, 0));
            refused("cut(" + s + ", NONE)", x.cut(s, -1));
            part = "18 to 20: NONE: no such SERVER";
            refused("server(" + s + ", 0)", x.server(s, 0), -1);
            refused("segment(" + s + ", 0, 0)", x.segment(s, 0, 0), -1);
            refused("peek(" + s + ", 0, 1)", x.peek(s, 0, 1), -1);
        }
        part = "14 cut: false: no such number";
        for (int j : outside(-1, REPLICAS)) {
            for (int s = 0; s < SERVERS; s++) {
                refused("cut(" + s + ", " + j + ")", x.cut(s, j));
            }
        }
    }

    private static void wrongQuestions() {
        part = "8 got: -1000000 if there is none such";
        for (int c : outside(0, 5)) {
            refused("client " + c, x.got(c, 1, 0), -1000000);
        }
        for (int n : outside(1, 40)) {
            refused("number " + n, x.got(0, n, 0), -1000000);
        }
        for (int w : outside(0, 2)) {
            refused("what " + w, x.got(0, 1, w), -1000000);
        }
        part = "9 acked: NONE: no such one";
        for (int c : outside(0, 5)) {
            refused("client " + c, x.acked(c), -1);
        }
        part = "16 tick: NONE for another n";
        for (int n : outside(0, 100)) {
            refused("tick(" + n + ")", x.tick(n), -1);
        }
        refused("tick(0)", x.tick(0), 0);
        part = "17 owner: NONE: no such TABLET";
        for (int t : outside(0, 7)) {
            refused("owner(" + t + ")", x.owner(t), -1);
        }
        part = "18 server: NONE: another what";
        for (int w : outside(0, 11)) {
            refused("server(0, " + w + ")", x.server(0, w), -1);
        }
        part = "19 segment: NONE: there is none such, another what";
        for (int s = 0; s < SERVERS; s++) {
            for (int k : outside(0, x.server(s, 4) - 1)) {
                refused("segment(" + s + ", " + k + ", 0)", x.segment(s, k, 0), -1);
            }
            for (int w : outside(0, 5)) {
                refused("segment(" + s + ", 0, " + w + ")", x.segment(s, 0, w), -1);
            }
        }
        part = "20 peek: NONE: no such ones";
        for (int k : outside(0, 63)) {
            refused("key " + k, x.peek(0, k, 1), -1);
        }
        for (int w : outside(0, 1)) {
            refused("what " + w, x.peek(0, 0, w), -1);
        }
        part = "21 count: NONE for another what";
        for (int w : outside(0, 11)) {
            refused("count(" + w + ")", x.count(w), -1);
        }
    }

    // ---- by the state

    private static void wrongStates() {
        part = "10 to 14: false by the SERVER's state";
        for (int s = 0; s < SERVERS; s++) {
            int state = x.server(s, 0);
            if (state == 0) {
                refused("restart of one that is UP", x.restart(s));
                refused("wake of one that is UP", x.wake(s));
            } else if (state == 1) {
                refused("restart of one that is ASLEEP", x.restart(s));
                refused("sleep of one that is ASLEEP", x.sleep(s));
            } else {
                refused("crash of one that is DOWN", x.crash(s));
                refused("sleep of one that is DOWN", x.sleep(s));
                refused("wake of one that is DOWN", x.wake(s));
            }
            for (int j = -1; state != 0 && j <= REPLICAS; j++) {
                refused("cut of one that is not UP", x.cut(s, j));
            }
        }
        part = "4 deliver: it is ASLEEP (it stays)";
        for (int p = 0; p < 40; p++) {
            if (ask(x, p, 0) == 0 && x.server(ask(x, p, 3), 0) == 1) {
                refused("deliver(" + p + ")", x.deliver(p), 2);
            }
        }
    }

    private static void noOwnerOrFull(int ownerless) {
        boolean full = x.count(1) == 40;
        due("TABLETS without OWNER", x.count(5), ownerless);
        for (int t = 0; t < 8; t++) {
            boolean none = x.owner(t) == -1;
            part = none ? "-2: the TABLET has no OWNER (also if the NET is full)" : "-3: the NET is full";
            if (none || full) {
                refused("2 send", x.send(5, WRITE, 8 * t, 0, 0), none ? -2 : -3);
                refused("a wrong kind goes ahead", x.send(5, 4, 8 * t, 0, 0), -1);
            }
            if ((none || full) && t < 6) {
                refused("3 again", x.again(t, latest[t]), none ? -2 : -3);
                refused("a wrong number goes ahead", x.again(t, latest[t] + 1), -1);
            }
        }
        for (int p = 0; full && p < 40; p++) {
            refused("6 twice(" + p + ")", x.twice(p), -3);
        }
        refused("none goes ahead of a full NET", x.twice(40), -1);
    }

    public static void main(String[] args) {
        for (int i = 0; i < SITUATIONS; i++) {
            part = "situation " + i;
            situation(i);
            wrongRequests();
            wrongPlaces();
            wrongServers();
            wrongQuestions();
            wrongStates();
            noOwnerOrFull(i < 3 ? 0 : 5);
        }
        end();
    }
}
