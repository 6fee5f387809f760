/** Each promise by hand: ordinary inputs, the edges that the document names, wrong inputs. */
public final class PromisesTest extends Check {
    // ---- promise 1

    private static void limitsOfANewObject() {
        part = "1 a new object";
        due("NONE", LogCluster.NONE, -1);
        int[] far = {Integer.MIN_VALUE, -1, 0, 1};
        for (int f : far) {
            sizes(new LogCluster(f, f, f, f), 4, 2, 6, 5);
        }
        sizes(new LogCluster(3, 1, 5, 4), 4, 2, 6, 5);
        sizes(new LogCluster(4, 2, 6, 5), 4, 2, 6, 5);
        sizes(new LogCluster(5, 3, 7, 6), 5, 3, 7, 6);
        sizes(new LogCluster(8, 3, 16, 16), 8, 3, 16, 16);
        sizes(new LogCluster(9, 4, 17, 17), 8, 3, 16, 16);
        sizes(new LogCluster(Integer.MAX_VALUE, 99, 1 << 20, 1 << 30), 8, 3, 16, 16);
    }

    private static void sizes(LogCluster x, int s, int r, int z, int m) {
        due("count(9)", x.count(9), 0);
        due("server(s - 1, 0)", x.server(s - 1, 0), 0);
        due("server(s, 0)", x.server(s, 0), -1);
        for (int t = 0; t < 8; t++) {
            due("owner(" + t + ")", x.owner(t), t % s);
        }
        due("server(0, 2)", x.server(0, 2), s < 8 ? 2 : 1);
        due("server(s - 1, 2)", x.server(s - 1, 2), s == 4 ? 2 : 1);
        due("cut(0, r)", x.cut(0, r), true);
        due("cut(0, r + 1)", x.cut(0, r + 1), false);
        due("cut(0, NONE)", x.cut(0, -1), true);
        due("a WRITE", take(x, 0, WRITE, 0, 5, 0), 0);
        due("server(0, 7)", x.server(0, 7), z - 4);
        due("segment(0, 0, 4)", x.segment(0, 0, 4), r);
        int most = 1;
        for (int i = 0; i < 39 && x.count(3) == 0; i++) {
            most = Math.max(most, x.server(0, 4));
            take(x, 0, WRITE, 0, 5, 0);
        }
        // with sixteen UNITS 40 WRITES make eight SEGMENTS only
        due("SEGMENTS until CLEANING", most, z == 16 ? 8 : m - 1);
        due("SEGMENTS after CLEANING", x.server(0, 4), z == 16 ? 8 : 2);
    }

    private static void memoryOfSixteen() {
        part = "1 a new object";
        for (int m = 14; m <= 18; m++) {
            LogCluster x = new LogCluster(8, 2, 6, m);
            int most = 0;
            for (int i = 0; i < 40 && x.count(3) == 0; i++) {
                most = Math.max(most, x.server(0, 4));
                take(x, 0, WRITE, 0, 5, 0);
            }
            due("SEGMENTS until CLEANING", most, Math.min(16, m) - 1);
        }
    }

    // ---- promises 2 and 3

    private static void sending() {
        part = "2 send";
        LogCluster x = new LogCluster(4, 2, 6, 5);
        due("client -1", x.send(-1, 1, 0, 0, 0), -1);
        due("client 6", x.send(6, 1, 0, 0, 0), -1);
        due("kind -1", x.send(0, -1, 0, 0, 0), -1);
        due("kind 4", x.send(0, 4, 0, 0, 0), -1);
        due("key -1", x.send(0, 1, -1, 0, 0), -1);
        due("key 64", x.send(0, 1, 64, 0, 0), -1);
        due("count(1)", x.count(1), 0);
        due("key 63", x.send(0, 3, 63, 0, 0), 1);
        due("its SERVER", ask(x, 0, 3), 3);
        for (int i = 2; i <= 40; i++) {
            due("number", x.send(0, READ, 8, 0, 0), i);
            due("its place", ask(x, i - 1, 2), i);
        }
        due("a 41st number", x.send(0, 0, 0, 0, 0), -1);
        due("the NET is full", x.send(1, 0, 0, 0, 0), -3);
        due("the NET is full", x.send(1, 0, 64, 0, 0), -1);
        part = "3 again";
        due("the NET is full", x.again(0, 40), -3);
        due("no number", x.again(1, 1), -1);
        due("drop(7)", x.drop(7), true);
        part = "2 send";
        due("no number was used up", x.send(1, 0, 0, 0, 0), 1);
        due("the first free place", ask(x, 7, 1), 1);
        x.crash(0);
        x.crash(1);
        due("tick(3)", x.tick(3), 0);
        due("no OWNER goes ahead of a full NET", x.send(1, 0, 0, 0, 0), -2);
        due("NONE goes ahead of no OWNER", x.send(0, 0, 0, 0, 0), -1);
        part = "3 again";
        due("no OWNER goes ahead of a full NET", x.again(1, 1), -2);
        due("an OWNER, a full NET", x.again(0, 1), -3);
        due("drop(39)", x.drop(39), true);
        due("drop(3)", x.drop(3), true);
        due("the first free place", x.again(0, 1), 3);
        due("number 0", x.again(0, 0), -1);
        due("number -1", x.again(0, -1), -1);
        due("number 41", x.again(0, 41), -1);
        due("client -1", x.again(-1, 1), -1);
        due("client 6", x.again(6, 1), -1);
    }

    private static void againWithTheAckedOfNow() {
        part = "3 again";
        LogCluster x = new LogCluster(4, 2, 16, 5);
        due("send", x.send(0, WRITE, 0, 9, 0), 1);
        due("twice", x.twice(0), 1);
        due("deliver", x.deliver(0), 0);
        due("deliver", x.deliver(0), 4);
        due("the other one, with the ACKED of its sending", x.deliver(1), 0);
        due("is as the RESULT tells", ask(x, 1, 4), 0);
        due("deliver", x.deliver(1), 5);
        due("again", x.again(0, 1), 0);
        due("with the ACKED of now", x.deliver(0), 0);
        due("is STALE", ask(x, 0, 4), 5);
        due("deliver", x.deliver(0), 5);
        due("SAFE", x.server(0, 3), 1);
        x.crash(0);
        x.tick(3);
        due("again", x.again(0, 1), 0);
        due("to who is OWNER now", ask(x, 0, 3), 1);
        due("what it asked", ask(x, 0, 5), 1);
    }

    // ---- promise 4

    private static void delivering() {
        part = "4 deliver";
        LogCluster x = new LogCluster(4, 2, 8, 5);
        int[] nowhere = {-1, 0, 39, 40, Integer.MIN_VALUE, Integer.MAX_VALUE};
        for (int p : nowhere) {
            due("deliver(" + p + ")", x.deliver(p), -1);
        }
        x.send(0, WRITE, 0, 1, 0);
        x.sleep(0);
        due("ASLEEP", x.deliver(0), 2);
        due("it stays", ask(x, 0, 0), 0);
        x.wake(0);
        due("UP", x.deliver(0), 0);
        x.twice(0);
        due("the client has it", x.deliver(0), 4);
        due("it is gone", x.deliver(0), -1);
        due("it had one", x.deliver(1), 5);
        due("it is gone", x.deliver(1), -1);
        x.send(0, WRITE, 0, 1, 0);
        x.crash(0);
        due("DOWN", x.deliver(0), 1);
        due("it is gone", x.deliver(0), -1);
        x.again(0, 2);
        x.restart(0);
        due("UP and LOST", x.deliver(0), 0);
        due("ELSEWHERE", ask(x, 0, 4), 3);
        due("of no use", x.deliver(0), 6);
        due("it is gone", x.deliver(0), -1);
        due("no answer", x.got(0, 2, 0), -1000000);
    }

    private static void kindsOfRequests() {
        part = "4 deliver, the KINDS";
        LogCluster x = new LogCluster(4, 2, 16, 5);
        due("READ of nothing", take(x, 0, READ, 1, 0, 0), 1);
        answer(x, 0, 1, 1, 0, 0);
        due("a HEAD by a READ", x.server(0, 11), 0);
        due("no ENTRY by a READ", x.count(7), 0);
        due("REMOVE of nothing", take(x, 0, REMOVE, 1, 0, 0), 1);
        answer(x, 0, 2, 1, 0, 0);
        due("a RESULT alone", x.count(7), 1);
        due("SAFE", x.server(0, 3), 0);
        due("CHANGE of nothing, 7 told", take(x, 0, CHANGE, 1, 50, 7), 2);
        answer(x, 0, 3, 2, 0, 0);
        due("CHANGE of nothing, 0 told", take(x, 0, CHANGE, 1, 51, 0), 0);
        answer(x, 0, 4, 0, 51, 1);
        due("CHANGE, 0 told", take(x, 0, CHANGE, 1, 52, 0), 2);
        answer(x, 0, 5, 2, 51, 1);
        due("CHANGE, 1 told", take(x, 0, CHANGE, 1, -53, 1), 0);
        answer(x, 0, 6, 0, -53, 2);
        due("WRITE of another KEY", take(x, 0, WRITE, 2, 60, 99), 0);
        answer(x, 0, 7, 0, 60, 3);
        due("READ", take(x, 1, READ, 1, 0, 0), 0);
        answer(x, 1, 1, 0, -53, 2);
        due("REMOVE", take(x, 1, REMOVE, 1, 77, 0), 0);
        answer(x, 1, 2, 0, 0, 4);
        due("READ of what is removed", take(x, 1, READ, 1, 0, 0), 1);
        answer(x, 1, 3, 1, 0, 0);
        due("CHANGE of what is removed", take(x, 1, CHANGE, 1, 54, 0), 0);
        answer(x, 1, 4, 0, 54, 5);
        due("REQUESTS that took effect", x.count(11), 5);
        due("the other SERVERS' SAFE", x.server(1, 3), 0);
    }

    private static void onceAtMost() {
        part = "4 deliver, once at most";
        LogCluster x = new LogCluster(4, 2, 16, 5);
        due("WRITE, the ANSWER is lost", lose(x, 0, WRITE, 0, 10, 0), 0);
        due("another WRITE", take(x, 1, WRITE, 0, 20, 0), 0);
        due("again", x.again(0, 1), 0);
        due("again", x.again(0, 1), 1);
        due("deliver", x.deliver(0), 0);
        due("deliver", x.deliver(1), 0);
        due("as the RESULT tells", ask(x, 0, 4), 0);
        due("as the RESULT tells", ask(x, 1, 4), 0);
        due("deliver", x.deliver(1), 4);
        answer(x, 0, 1, 0, 10, 1);
        due("deliver", x.deliver(0), 5);
        due("peek", x.peek(0, 0, 0), 20);
        due("count(11)", x.count(11), 2);
        due("count(7)", x.count(7), 2);
        due("a REMOVE, the ANSWER is lost", lose(x, 0, REMOVE, 0, 0, 0), 0);
        due("a CHANGE in between", take(x, 1, CHANGE, 0, 30, 0), 0);
        due("again", x.again(0, 2), 0);
        due("deliver", x.deliver(0), 0);
        due("deliver", x.deliver(0), 4);
        answer(x, 0, 2, 0, 0, 3);
        due("peek", x.peek(0, 0, 1), 4);
    }

    // ---- promises 5 to 9

    private static void theNet() {
        part = "5 drop";
        LogCluster x = new LogCluster(4, 2, 8, 5);
        int[] nowhere = {-1, 0, 39, 40, Integer.MIN_VALUE, Integer.MAX_VALUE};
        for (int p : nowhere) {
            due("drop(" + p + ")", x.drop(p), false);
            part = "6 twice";
            due("twice(" + p + ")", x.twice(p), -1);
            part = "7 message";
            due("message(" + p + ", 0)", ask(x, p, 0), THROWN);
        }
        x.send(2, CHANGE, 17, 5, 0);
        due("count(1)", x.count(1), 1);
        int[] request = {0, 2, 1, 2, -1, 2};
        for (int w = 0; w < 6; w++) {
            due("a REQUEST, what " + w, ask(x, 0, w), request[w]);
        }
        due("what -1", ask(x, 0, -1), THROWN);
        due("what 6", ask(x, 0, 6), THROWN);
        part = "6 twice";
        due("twice(0)", x.twice(0), 1);
        due("deliver(1)", x.deliver(1), 0);
        part = "7 message";
        int[] answer = {1, 2, 1, -1, 0, 2};
        for (int w = 0; w < 6; w++) {
            due("an ANSWER, what " + w, ask(x, 1, w), answer[w]);
            due("the REQUEST, what " + w, ask(x, 0, w), request[w]);
        }
        due("what -1", ask(x, 1, -1), THROWN);
        due("what 6", ask(x, 1, 6), THROWN);
        part = "5 drop";
        due("drop(0)", x.drop(0), true);
        due("drop(0)", x.drop(0), false);
        due("message(0, 0)", ask(x, 0, 0), THROWN);
        due("the other is there", ask(x, 1, 0), 1);
        part = "6 twice";
        due("an ANSWER, to the first free place", x.twice(1), 0);
        for (int i = 2; i < 40; i++) {
            due("twice(0)", x.twice(0), i);
        }
        due("the NET is full", x.twice(39), -3);
        due("none goes ahead of a full NET", x.twice(40), -1);
        due("count(1)", x.count(1), 40);
        due("deliver(39)", x.deliver(39), 4);
        due("deliver(0)", x.deliver(0), 5);
    }

    private static void answersOfClients() {
        part = "8 got";
        LogCluster x = new LogCluster(4, 2, 16, 5);
        due("client -1", x.got(-1, 1, 0), -1000000);
        due("client 6", x.got(6, 1, 0), -1000000);
        due("no number", x.got(0, 1, 0), -1000000);
        x.send(0, WRITE, 0, 4, 0);
        x.send(0, READ, 0, 0, 0);
        x.send(0, READ, 9, 0, 0);
        due("no answer", x.got(0, 1, 0), -1000000);
        for (int i = 0; i < 3; i++) {
            due("deliver", x.deliver(i), 0);
        }
        part = "9 acked";
        due("client -1", x.acked(-1), -1);
        due("client 6", x.acked(6), -1);
        due("without REQUESTS", x.acked(5), 1);
        due("without answers", x.acked(0), 1);
        due("deliver(1)", x.deliver(1), 4);
        due("a gap", x.acked(0), 1);
        due("deliver(0)", x.deliver(0), 4);
        due("the first two", x.acked(0), 3);
        due("deliver(2)", x.deliver(2), 4);
        due("all", x.acked(0), 4);
        part = "8 got";
        answer(x, 0, 1, 0, 4, 1);
        answer(x, 0, 2, 0, 4, 1);
        answer(x, 0, 3, 1, 0, 0);
        due("what -1", x.got(0, 1, -1), -1000000);
        due("what 3", x.got(0, 1, 3), -1000000);
        due("number 0", x.got(0, 0, 0), -1000000);
        due("number 4", x.got(0, 4, 0), -1000000);
        due("number 41", x.got(0, 41, 0), -1000000);
        due("a number far away", x.got(0, Integer.MIN_VALUE, 0), -1000000);
    }

    private static void ackedOfFortyAnswers() {
        part = "9 acked";
        LogCluster x = new LogCluster(4, 2, 6, 5);
        for (int i = 1; i <= 40; i++) {
            due("READ", take(x, 3, READ, 0, 0, 0), 1);
            due("acked(3)", x.acked(3), i + 1);
        }
        due("a 41st", x.send(3, READ, 0, 0, 0), -1);
        due("got(3, 40, 0)", x.got(3, 40, 0), 1);
    }

    // ---- promises 10 to 15

    private static void statesOfServers() {
        LogCluster x = new LogCluster(4, 2, 8, 5);
        int[] none = {-1, 4, 8, Integer.MIN_VALUE, Integer.MAX_VALUE};
        for (int s : none) {
            part = "10 crash";
            due("crash(" + s + ")", x.crash(s), false);
            part = "11 restart";
            due("restart(" + s + ")", x.restart(s), false);
            part = "12 sleep";
            due("sleep(" + s + ")", x.sleep(s), false);
            part = "13 wake";
            due("wake(" + s + ")", x.wake(s), false);
            part = "14 cut";
            due("cut(" + s + ", 0)", x.cut(s, 0), false);
        }
        part = "11 restart, 13 wake";
        due("restart of one that is UP", x.restart(2), false);
        due("wake of one that is UP", x.wake(2), false);
        part = "12 sleep";
        due("sleep(2)", x.sleep(2), true);
        due("state", x.server(2, 0), 1);
        due("sleep(2)", x.sleep(2), false);
        due("restart of one that is ASLEEP", x.restart(2), false);
        part = "14 cut";
        due("cut of one that is ASLEEP", x.cut(2, -1), false);
        part = "13 wake";
        due("wake(2)", x.wake(2), true);
        due("state", x.server(2, 0), 0);
        due("its TABLETS", x.server(2, 2), 2);
        part = "10 crash";
        due("crash(2)", x.crash(2), true);
        due("state", x.server(2, 0), 2);
        due("crash(2)", x.crash(2), false);
        due("sleep of one that is DOWN", x.sleep(2), false);
        due("wake of one that is DOWN", x.wake(2), false);
        part = "11 restart";
        due("restart(2)", x.restart(2), true);
        due("state", x.server(2, 0), 0);
        due("its TABLETS", x.server(2, 2), 0);
        due("by the MAP", x.owner(2), 2);
        part = "10 crash";
        due("sleep(3)", x.sleep(3), true);
        due("crash of one that is ASLEEP", x.crash(3), true);
        due("state", x.server(3, 0), 2);
    }

    private static void crashLosesMemory() {
        part = "10 crash";
        LogCluster x = new LogCluster(4, 2, 8, 5);
        take(x, 0, WRITE, 0, 5, 0);
        due("cut(0, 1)", x.cut(0, 1), true);
        due("copies", x.server(1, 8), 1);
        due("crash(0)", x.crash(0), true);
        int[] want = {2, 0, 0, 0, 0, 0, 0, 0, 0, -1, 0, -1};
        for (int w = 0; w < want.length; w++) {
            due("server(0, " + w + ")", x.server(0, w), want[w]);
        }
        due("copies stay on disks", x.server(1, 8), 1);
        due("copies stay on disks", x.server(2, 8), 1);
        due("peek", x.peek(0, 0, 0), -1);
        due("restart(0)", x.restart(0), true);
        due("crash(0)", x.crash(0), true);
        due("restart(0)", x.restart(0), true);
        due("UP and LOST is DEAD at once", x.tick(1), 1);
        due("the LOG that it had at first", x.peek(x.owner(0), 0, 0), 5);
        due("it takes its TABLETS over itself", x.owner(0), 0);
        due("count(6)", x.count(6), 1);
        due("not FENCED", x.server(0, 1), 0);
        due("MISSES", x.server(0, 10), 0);
    }

    private static void cuts() {
        part = "14 cut";
        for (int r = 2; r <= 3; r++) {
            for (int j = 0; j <= r; j++) {
                LogCluster x = new LogCluster(5, r, 8, 5);
                due("cut(1, -2)", x.cut(1, -2), false);
                due("cut(1, r + 1)", x.cut(1, r + 1), false);
                due("server(1, 9)", x.server(1, 9), -1);
                due("cut(1, 0)", x.cut(1, 0), true);
                due("cut(1, j)", x.cut(1, j), true);
                due("in place of another one", x.server(1, 9), j);
                due("READ is no ENTRY", take(x, 0, READ, 8, 0, 0), 1);
                due("server(1, 9)", x.server(1, 9), j);
                x.send(0, WRITE, 8, 5, 0);
                due("it goes DOWN with it", x.deliver(0), 3);
                due("the REQUEST is gone", x.count(1), 0);
                due("server(1, 0)", x.server(1, 0), 2);
                due("the CUT is taken back", x.server(1, 9), -1);
                due("ENTRIES APPENDED", x.count(7), 1);
                due("effects", x.count(11), j > 0 ? 1 : 0);
                due("tick(3)", x.tick(3), 1);
                int heir = x.owner(1);
                due("what was written", x.peek(heir, 8, 0), j > 0 ? 5 : -1);
                due("SAFE", x.server(heir, 3), j > 0 ? 1 : 0);
                due("again", x.again(0, 2), 0);
                due("deliver", x.deliver(0), 0);
                due("deliver", x.deliver(0), 4);
                answer(x, 0, 2, 0, 5, 1);
                due("effects", x.count(11), 1);
            }
        }
    }

    private static void cutTakenBack() {
        part = "14 cut";
        LogCluster x = new LogCluster(4, 2, 8, 5);
        due("cut(0, 2)", x.cut(0, 2), true);
        due("cut(0, NONE)", x.cut(0, -1), true);
        due("server(0, 9)", x.server(0, 9), -1);
        due("WRITE", take(x, 0, WRITE, 0, 1, 0), 0);
        due("cut(0, 0)", x.cut(0, 0), true);
        x.coordinator(true);
        x.send(0, WRITE, 0, 2, 0);
        due("there is room: no OPENING is asked", x.deliver(0), 3);
        due("it is DOWN", x.server(0, 0), 2);
        x = new LogCluster(4, 2, 6, 5);
        x.coordinator(true);
        x.cut(0, 0);
        due("a refused ENTRY is none", lose(x, 0, WRITE, 0, 1, 0), 4);
        due("the CUT stays", x.server(0, 9), 0);
        due("sleep", x.sleep(0), true);
        due("the CUT stays", x.server(0, 9), 0);
        due("wake", x.wake(0), true);
        x.coordinator(false);
        x.send(0, REMOVE, 0, 0, 0);
        due("a RESULT alone", x.deliver(0), 3);
        due("ENTRIES APPENDED", x.count(7), 1);
        due("effects", x.count(11), 0);
    }

    private static void coordinatorAway() {
        part = "15 coordinator";
        LogCluster x = new LogCluster(4, 2, 6, 5);
        x.coordinator(true);
        due("count(9)", x.count(9), 1);
        due("no OPENING for a READ", lose(x, 0, READ, 0, 0, 0), 4);
        due("no OPENING for a WRITE", lose(x, 0, WRITE, 0, 0, 0), 4);
        x.coordinator(false);
        due("count(9)", x.count(9), 0);
        due("WRITE", take(x, 1, WRITE, 0, 7, 0), 0);
        x.coordinator(true);
        due("READ", take(x, 1, READ, 0, 0, 0), 0);
        due("a WRITE without room", lose(x, 1, WRITE, 0, 8, 0), 4);
        due("the HEAD stays", x.server(0, 11), 0);
        due("a REMOVE with room", take(x, 2, REMOVE, 0, 0, 0), 0);
        x.crash(1);
        due("tick(50)", x.tick(50), 0);
        due("MISSES", x.server(1, 10), 0);
        due("owner(1)", x.owner(1), 1);
        due("the HEAD is none, for SERVERS see to it", x.server(0, 11), -1);
        due("MENDING goes on", x.count(10), 1);
        due("clock", x.count(0), 50);
        x.coordinator(false);
        due("tick(2)", x.tick(2), 0);
        due("tick(1)", x.tick(1), 1);
        due("MISSES", x.server(1, 10), 3);
    }

    // ---- promise 16

    private static void ticks() {
        part = "16 tick";
        LogCluster x = new LogCluster(4, 2, 8, 5);
        due("tick(-1)", x.tick(-1), -1);
        due("tick(101)", x.tick(101), -1);
        due("tick(MIN)", x.tick(Integer.MIN_VALUE), -1);
        due("clock", x.count(0), 0);
        due("tick(0)", x.tick(0), 0);
        due("clock", x.count(0), 0);
        due("tick(100)", x.tick(100), 0);
        due("clock", x.count(0), 100);
        x.crash(0);
        x.sleep(1);
        due("two are UP: too few", x.tick(100), 0);
        due("DEAD LOGS", x.count(4), 2);
        due("DEAD ones", x.count(6), 2);
        due("TABLETS without OWNER", x.count(5), 4);
        due("FENCED, for it was not LOST", x.server(1, 1), 1);
        due("not FENCED, for it was LOST", x.server(0, 1), 0);
        due("MISSES", x.server(1, 10), 100);
        due("restart(0)", x.restart(0), true);
        due("both in one TICK", x.tick(1), 2);
        due("owner(0)", x.owner(0), 0);
        due("owner(4)", x.owner(4), 0);
        due("owner(1)", x.owner(1), 0);
        due("owner(5)", x.owner(5), 2);
        due("what the sleeper believes", x.server(1, 2), 2);
        due("wake(1)", x.wake(1), true);
        due("tick(1)", x.tick(1), 0);
        due("it forgot", x.count(8), 1);
        due("its TABLETS", x.server(1, 2), 0);
        due("FENCED", x.server(1, 1), 0);
    }

    private static void missesEndWithAWaking() {
        part = "16 tick";
        LogCluster x = new LogCluster(4, 2, 8, 5);
        x.sleep(3);
        due("tick(2)", x.tick(2), 0);
        due("MISSES", x.server(3, 10), 2);
        x.wake(3);
        due("tick(1)", x.tick(1), 0);
        due("MISSES", x.server(3, 10), 0);
        x.sleep(3);
        due("tick(2)", x.tick(2), 0);
        due("owner(3)", x.owner(3), 3);
        due("tick(1)", x.tick(1), 1);
        due("owner(3)", x.owner(3), 0);
        due("owner(7)", x.owner(7), 1);
    }

    private static void lostAndAsleep() {
        part = "16 tick";
        LogCluster x = new LogCluster(4, 2, 8, 5);
        take(x, 0, WRITE, 3, 33, 0);
        x.crash(0);
        x.restart(0);
        x.sleep(0);
        due("ASLEEP and LOST: not at once", x.tick(2), 0);
        due("then by MISSES", x.tick(1), 1);
        due("not FENCED", x.server(0, 1), 0);
        due("the LOG that it lost", x.peek(1, 3, 0), 33);
    }

    private static void deadLogWaitsForAHolder() {
        part = "16 tick";
        LogCluster x = new LogCluster(6, 2, 8, 5);
        take(x, 0, WRITE, 0, 5, 0);
        due("copies at 1", x.server(1, 8), 1);
        due("copies at 2", x.server(2, 8), 1);
        x.crash(0);
        x.crash(1);
        x.crash(2);
        due("the two others' LOGS are empty", x.tick(3), 2);
        due("no HOLDER of that SEGMENT is UP", x.count(4), 1);
        due("owner(0)", x.owner(0), -1);
        due("owner(6)", x.owner(6), -1);
        due("owner(1)", x.owner(1), 3);
        due("owner(7)", x.owner(7), 4);
        due("owner(2)", x.owner(2), 5);
        due("owner(8)", x.owner(8), -1);
        due("tick(5)", x.tick(5), 0);
        x.restart(2);
        due("tick(1)", x.tick(1), 1);
        due("the SERVER of the fewest", x.owner(0), 2);
        due("then the first of the like", x.owner(6), 2);
        due("peek", x.peek(2, 0, 0), 5);
        due("its copies are no more", x.server(1, 8), 0);
    }

    private static void mending() {
        part = "16 tick, MENDING";
        LogCluster x = new LogCluster(5, 2, 6, 5);
        take(x, 0, WRITE, 0, 1, 0);
        take(x, 0, WRITE, 0, 2, 0);
        due("NAME 0 at 1", x.server(1, 8), 1);
        due("NAME 0 and 1 at 2", x.server(2, 8), 2);
        due("NAME 1 at 3", x.server(3, 8), 1);
        x.crash(2);
        due("HEAD", x.server(0, 11), 1);
        due("tick(1)", x.tick(1), 0);
        due("no HEAD", x.server(0, 11), -1);
        due("one SEGMENT a TICK", x.count(10), 1);
        due("HOLDERS", x.segment(0, 0, 4), 3);
        due("UP", x.segment(0, 0, 5), 2);
        due("HOLDERS", x.segment(0, 1, 4), 2);
        due("UP", x.segment(0, 1, 5), 1);
        due("the first of the RING that is none: 3", x.server(3, 8), 2);
        due("tick(1)", x.tick(1), 0);
        due("MENDINGS", x.count(10), 2);
        due("the first of the RING that is none: 4", x.server(4, 8), 1);
        due("UP", x.segment(0, 1, 5), 2);
        due("restart(2)", x.restart(2), true);
        due("UP", x.segment(0, 1, 5), 3);
        due("tick(1)", x.tick(1), 1);
        due("MENDINGS", x.count(10), 2);
        x = new LogCluster(4, 3, 6, 5);
        take(x, 0, WRITE, 0, 1, 0);
        x.sleep(2);
        due("tick(2)", x.tick(2), 0);
        due("there is no other SERVER", x.count(10), 0);
        due("OPENING is refused", lose(x, 0, READ, 0, 0, 0), 4);
        x.wake(2);
        due("OPENING", take(x, 0, READ, 0, 0, 0), 0);
        due("HEAD", x.server(0, 11), 1);
    }

    private static void recoveryOfNotes() {
        part = "16 tick, recoveries";
        LogCluster x = new LogCluster(4, 2, 16, 5);
        take(x, 0, WRITE, 0, 100, 0);
        take(x, 0, WRITE, 1, 101, 0);
        due("WRITE", lose(x, 0, WRITE, 32, 102, 0), 0);
        x.crash(0);
        due("tick(3)", x.tick(3), 1);
        due("owner(0)", x.owner(0), 1);
        due("owner(4)", x.owner(4), 2);
        due("ENTRIES APPENDED: 3, then a NOTE and 2 OBJECTS, a NOTE, OBJECT and RESULT", x.count(7), 9);
        due("SAFE", x.server(1, 3), 3);
        due("SAFE", x.server(2, 3), 3);
        due("ENTRIES", x.segment(1, 0, 1), 4);
        due("UNITS", x.segment(1, 0, 2), 6);
        due("LIVE", x.segment(1, 0, 3), 5);
        due("ENTRIES", x.segment(2, 0, 1), 4);
        due("UNITS", x.segment(2, 0, 2), 5);
        due("LIVE: the RESULT has ACKED, so the NOTE ahead of it is not", x.segment(2, 0, 3), 3);
        due("again(0, 1)", x.again(0, 1), 0);
        due("deliver", x.deliver(0), 0);
        due("STALE", ask(x, 0, 4), 5);
        x.drop(0);
        due("again(0, 3)", x.again(0, 3), 0);
        due("deliver", x.deliver(0), 0);
        due("deliver", x.deliver(0), 4);
        answer(x, 0, 3, 0, 102, 3);
        due("no ENTRY", x.count(7), 9);
        // the next RESULT has 4 as acked: the one of number 3 is not LIVE any more
        due("WRITE", take(x, 0, WRITE, 33, 103, 0), 0);
        answer(x, 0, 4, 0, 103, 4);
        due("LIVE: two OBJECTS and a RESULT", x.segment(2, 0, 3), 5);
        due("not LIVE: DIGEST, NOTE, RESULT", x.server(2, 6), 3);
    }

    private static void noteBesideResultIsNotLive() {
        part = "18 server, a NOTE beside a RESULT";
        LogCluster x = new LogCluster(4, 2, 6, 5);
        take(x, 0, WRITE, 8, 50, 0);
        x.cut(1, 1);
        x.send(0, WRITE, 8, 60, 0);
        due("deliver", x.deliver(0), 3);
        due("tick(3)", x.tick(3), 1);
        due("ENTRIES: DIGEST, NOTE, OBJECT, RESULT", x.segment(0, 0, 1), 4);
        due("LIVE: OBJECT, RESULT", x.segment(0, 0, 3), 3);
        due("LIVE", x.server(0, 5), 3);
        due("not LIVE", x.server(0, 6), 2);
        due("ENTRIES: DIGEST, NOTE", x.segment(2, 0, 1), 2);
        due("LIVE: a NOTE alone", x.segment(2, 0, 3), 1);
        due("LIVE", x.server(2, 5), 1);
        due("not LIVE", x.server(2, 6), 1);
        for (int i = 0; i < 4; i++) {
            due("WRITE", lose(x, 1, WRITE, 0, i, 0), 0);
        }
        due("CLEANINGS", x.count(3), 1);
        due("SEGMENTS", x.server(0, 4), 3);
        due("NAME of the packed one", x.segment(0, 1, 0), 7);
        due("ENTRIES: three RESULTS and an OBJECT, no NOTE", x.segment(0, 1, 1), 4);
        due("UNITS", x.segment(0, 1, 2), 5);
        due("LIVE", x.segment(0, 1, 3), 5);
        x.again(0, 2);
        due("deliver", x.deliver(0), 0);
        due("deliver", x.deliver(0), 4);
        answer(x, 0, 2, 0, 60, 2);
    }

    private static void noteAloneOutlivesCleaning() {
        part = "18 server, a NOTE alone";
        LogCluster x = new LogCluster(4, 2, 6, 5);
        x.send(0, WRITE, 8, 50, 0);
        due("a late one", x.twice(0), 1);
        due("deliver", x.deliver(0), 0);
        due("deliver", x.deliver(0), 4);
        // its RESULT goes to another SERVER than the NOTE of TABLET 0
        due("WRITE", lose(x, 0, WRITE, 32, 60, 0), 0);
        x.crash(0);
        due("tick(3)", x.tick(3), 1);
        due("LIVE: OBJECT, NOTE", x.server(1, 5), 3);
        due("a later one", x.twice(1), 0);
        due("deliver", x.deliver(0), 0);
        due("STALE", ask(x, 0, 4), 5);
        x.drop(0);
        for (int i = 0; i < 4; i++) {
            due("WRITE", lose(x, 1, WRITE, 9, i, 0), 0);
        }
        due("CLEANINGS", x.count(3), 1);
        due("NAME of the packed one", x.segment(1, 1, 0), 6);
        due("ENTRIES: two RESULTS, OBJECT, NOTE", x.segment(1, 1, 1), 4);
        due("LIVE", x.segment(1, 1, 3), 5);
        due("deliver", x.deliver(1), 0);
        due("STALE: the RESULT is no more, but the NOTE is", ask(x, 1, 4), 5);
        due("not done twice", x.peek(1, 8, 1), 1);
        due("REQUESTS that took effect", x.count(11), 6);
    }

    private static void removedStaysRemoved() {
        part = "16 tick, recoveries";
        LogCluster x = new LogCluster(4, 2, 16, 5);
        take(x, 0, WRITE, 0, 100, 0);
        take(x, 0, WRITE, 1, 101, 0);
        take(x, 0, WRITE, 1, 102, 0);
        take(x, 0, REMOVE, 0, 0, 0);
        x.sleep(0);
        due("tick(3)", x.tick(3), 1);
        due("the removed one", x.peek(1, 0, 1), 0);
        due("the latest OBJECT", x.peek(1, 1, 0), 102);
        due("SAFE is above the TOMB", x.server(1, 3), 4);
        due("CHANGE", take(x, 1, CHANGE, 0, 200, 0), 0);
        answer(x, 1, 1, 0, 200, 5);
        x.wake(0);
        x.send(2, READ, 0, 0, 0);
        due("to the new OWNER", ask(x, 0, 3), 1);
    }

    private static void sleeperWakesTooLate() {
        part = "16 tick, FENCED";
        LogCluster x = new LogCluster(4, 2, 16, 5);
        take(x, 0, WRITE, 0, 100, 0);
        x.cut(0, 1);
        x.send(1, WRITE, 0, 200, 0);
        x.sleep(0);
        due("tick(3)", x.tick(3), 1);
        int[] want = {1, 1, 2, 1, 0, 0, 0, 0, 0, 1, 3, -1};
        for (int w = 0; w < want.length; w++) {
            due("server(0, " + w + ")", x.server(0, w), want[w]);
        }
        due("ASLEEP", x.deliver(0), 2);
        x.wake(0);
        due("FENCED: it forgets", x.deliver(0), 0);
        due("ELSEWHERE", ask(x, 0, 4), 3);
        due("the CUT is taken back", x.server(0, 9), -1);
        due("FENCED", x.server(0, 1), 0);
        due("its TABLETS", x.server(0, 2), 0);
        due("SAFE", x.server(0, 3), 0);
        due("it is UP", x.server(0, 0), 0);
        due("count(8)", x.count(8), 1);
        due("deliver", x.deliver(0), 6);
        due("the value", x.peek(1, 0, 0), 100);
        x = new LogCluster(4, 2, 16, 5);
        x.sleep(0);
        x.tick(3);
        due("crash of a FENCED one", x.crash(0), true);
        due("FENCED", x.server(0, 1), 0);
        due("restart", x.restart(0), true);
        due("not LOST", x.tick(1), 0);
        due("count(6)", x.count(6), 1);
        due("count(8)", x.count(8), 0);
    }

    private static void cleaningPacks() {
        part = "16 tick, CLEANING";
        LogCluster x = new LogCluster(4, 2, 6, 5);
        for (int i = 0; i < 4; i++) {
            due("WRITE", lose(x, 0, WRITE, i, 10 + i, 0), 0);
        }
        due("SEGMENTS", x.server(0, 4), 4);
        due("CLEANINGS", x.count(3), 0);
        due("WRITE", lose(x, 0, WRITE, 4, 14, 0), 0);
        segments(x, 0, 2, 3, 4, 5);
        due("CLEANINGS", x.count(3), 1);
        due("ENTRIES of the packed one", x.segment(0, 2, 1), 4);
        due("UNITS of the packed one", x.segment(0, 2, 2), 6);
        due("LIVE of the packed one", x.segment(0, 2, 3), 6);
        due("HOLDERS of the packed one", x.segment(0, 2, 4), 2);
        due("ENTRIES APPENDED", x.count(7), 5);
        due("WRITE", lose(x, 0, WRITE, 5, 15, 0), 0);
        segments(x, 0, 4, 5, 6, 7);
        due("WRITE", lose(x, 0, WRITE, 6, 16, 0), 0);
        segments(x, 0, 4, 5, 6, 7, 8);
        due("one SEGMENT alone is not packed", x.count(3), 2);
        due("WRITE", lose(x, 0, WRITE, 7, 17, 0), 0);
        segments(x, 0, 4, 6, 8, 9, 10);
        due("CLEANINGS", x.count(3), 3);
        due("M SEGMENTS: refused", lose(x, 0, WRITE, 0, 18, 0), 4);
        segments(x, 0, 4, 6, 8, 9, 10);
        due("there is no HEAD", x.server(0, 11), -1);
        due("READ: refused", lose(x, 1, READ, 0, 0, 0), 4);
        due("CLEANINGS that did something", x.count(3), 3);
        due("NAMES", x.count(2), 11);
        for (int i = 0; i < 8; i++) {
            due("peek", x.peek(0, i, 0), 10 + i);
            due("version", x.peek(0, i, 1), i + 1);
        }
        due("LIVE UNITS", x.server(0, 5), 24);
        due("not LIVE", x.server(0, 6), 2);
        due("free", x.server(0, 7), 4);
        x.crash(0);
        due("recovered beyond any limit", x.tick(3), 1);
        for (int i = 0; i < 8; i++) {
            due("peek", x.peek(1, i, 0), 10 + i);
        }
        due("OBJECTS and RESULTS", x.server(1, 5), 24);
        due("ENTRIES APPENDED", x.count(7), 24);
        due("SEGMENTS beyond M", x.server(1, 4), 6);
    }

    private static void tombTellsWhereTheObjectIs() {
        part = "16 tick, TOMBS";
        LogCluster x = new LogCluster(4, 2, 6, 5);
        for (int i = 0; i < 4; i++) {
            due("WRITE", lose(x, 0, WRITE, i, 10 + i, 0), 0);
        }
        due("a RESULT alone", lose(x, 1, CHANGE, 3, 0, 9), 2);
        due("REMOVE, whose OPENING moves the OBJECT", lose(x, 1, REMOVE, 0, 0, 0), 0);
        segments(x, 0, 2, 3, 4, 5);
        due("without the OBJECT", x.segment(0, 2, 3), 4);
        due("TOMB and RESULT", x.segment(0, 3, 3), 2);
        due("UNITS", x.segment(0, 3, 2), 3);
        due("peek", x.peek(0, 0, 0), -1);
    }

    /** What is LIVE can come back with a CLEANING; a READ looks behind its OPENING. */
    private static void readBehindItsOpening() {
        part = "16 tick, READ";
        LogCluster x = new LogCluster(4, 2, 6, 5);
        lose(x, 3, CHANGE, 0, 56, 0);
        lose(x, 1, WRITE, 2, 69, 0);
        lose(x, 3, CHANGE, 2, 72, 0);
        lose(x, 1, WRITE, 0, 82, 0);
        take(x, 2, WRITE, 1, 45, 0);
        lose(x, 3, REMOVE, 0, 0, 0);
        take(x, 3, WRITE, 2, 78, 0);
        take(x, 1, WRITE, 1, 87, 0);
        take(x, 1, REMOVE, 2, 0, 0);
        lose(x, 3, REMOVE, 1, 0, 0);
        due("peek", x.peek(0, 2, 0), -1);
        x.sleep(2);
        due("READ", take(x, 0, READ, 2, 0, 0), 0);
        due("its value", x.got(0, 1, 1), 69);
        due("peek", x.peek(0, 2, 0), 69);
    }

    // ---- promises 17 to 21

    private static void wrongQuestions() {
        LogCluster x = new LogCluster(5, 2, 8, 5);
        take(x, 0, WRITE, 0, 5, 0);
        int[] far = {Integer.MIN_VALUE, -2, -1, 64, 1000, Integer.MAX_VALUE};
        for (int f : far) {
            part = "17 owner";
            due("owner", x.owner(f), -1);
            part = "18 server";
            due("server", x.server(f, 0), -1);
            due("what", x.server(0, f), -1);
            part = "19 segment";
            due("server", x.segment(f, 0, 0), -1);
            due("k", x.segment(0, f, 0), -1);
            due("what", x.segment(0, 0, f), -1);
            part = "20 peek";
            due("server", x.peek(f, 0, 1), -1);
            due("key", x.peek(0, f, 1), -1);
            due("what", x.peek(0, 0, f), -1);
            part = "21 count";
            due("count", x.count(f), -1);
        }
        part = "17 owner";
        due("owner(7)", x.owner(7), 2);
        due("owner(8)", x.owner(8), -1);
        part = "18 server";
        due("server(5, 0)", x.server(5, 0), -1);
        due("server(0, 12)", x.server(0, 12), -1);
        part = "19 segment";
        due("segment(5, 0, 0)", x.segment(5, 0, 0), -1);
        due("segment(1, 0, 0)", x.segment(1, 0, 0), -1);
        due("segment(0, 1, 0)", x.segment(0, 1, 0), -1);
        due("segment(0, 0, 6)", x.segment(0, 0, 6), -1);
        part = "20 peek";
        due("peek(5, 0, 1)", x.peek(5, 0, 1), -1);
        due("peek(0, 64, 1)", x.peek(0, 64, 1), -1);
        due("peek(0, 0, 2)", x.peek(0, 0, 2), -1);
        due("peek(0, 0, 0)", x.peek(0, 0, 0), 5);
        due("peek(0, 0, 1)", x.peek(0, 0, 1), 1);
        due("peek(0, 63, 0)", x.peek(0, 63, 0), -1);
        due("peek(0, 63, 1)", x.peek(0, 63, 1), 0);
        part = "21 count";
        due("count(12)", x.count(12), -1);
    }

    private static void unitsOfALog() {
        part = "18 server, 19 segment";
        LogCluster x = new LogCluster(4, 3, 6, 5);
        lose(x, 0, WRITE, 0, 1, 0);
        due("DIGEST, OBJECT, RESULT", x.segment(0, 0, 2), 4);
        due("LIVE", x.segment(0, 0, 3), 3);
        due("TOMB and RESULT fit", lose(x, 1, REMOVE, 0, 0, 0), 0);
        due("SEGMENTS", x.server(0, 4), 1);
        due("ENTRIES", x.segment(0, 0, 1), 3);
        due("UNITS", x.segment(0, 0, 2), 6);
        due("the TOMB's SEGMENT is there", x.segment(0, 0, 3), 3);
        due("not LIVE", x.server(0, 6), 3);
        due("free", x.server(0, 7), 0);
        due("a RESULT alone", lose(x, 2, REMOVE, 0, 0, 0), 1);
        due("SEGMENTS", x.server(0, 4), 2);
        due("LIVE", x.server(0, 5), 4);
        due("not LIVE", x.server(0, 6), 4);
        due("free", x.server(0, 7), 4);
        due("HOLDERS", x.segment(0, 1, 4), 3);
        x.sleep(3);
        due("UP", x.segment(0, 1, 5), 2);
        due("copies", x.server(3, 8), 2);
        due("HEAD", x.server(0, 11), 1);
        due("effects", x.count(11), 2);
        due("ENTRIES APPENDED", x.count(7), 3);
        due("MESSAGES", x.count(1), 0);
    }

    /** The HOLDERS are the first R of the RING that are UP, for many NAMES and SERVERS. */
    private static void holdersByTheRing() {
        part = "18 server, the RING";
        for (int s = 4; s <= 8; s++) {
            for (int m = 0; m < s; m++) {
                for (int asleep = 0; asleep < s; asleep++) {
                    LogCluster x = new LogCluster(s, 2, 6, 16);
                    int[] copies = new int[s];
                    if (asleep != m) {
                        x.sleep(asleep);
                    }
                    for (int n = 0; n < 9; n++) {
                        lose(x, n % 6, WRITE, 8 * m + n % 8, n, 0);
                        int found = 0;
                        for (int i = 0; i < s && found < 2; i++) {
                            int h = (7 * n + 3 * m + i) % s;
                            if (h != m && h != asleep) {
                                copies[h]++;
                                found++;
                            }
                        }
                    }
                    for (int i = 0; i < s; i++) {
                        due("copies at " + i + " of " + m + " of " + s, x.server(i, 8), copies[i]);
                    }
                }
            }
        }
    }

    public static void main(String[] args) {
        limitsOfANewObject();
        memoryOfSixteen();
        sending();
        againWithTheAckedOfNow();
        delivering();
        kindsOfRequests();
        onceAtMost();
        theNet();
        answersOfClients();
        ackedOfFortyAnswers();
        statesOfServers();
        crashLosesMemory();
        cuts();
        cutTakenBack();
        coordinatorAway();
        ticks();
        missesEndWithAWaking();
        lostAndAsleep();
        deadLogWaitsForAHolder();
        mending();
        recoveryOfNotes();
        noteBesideResultIsNotLive();
        noteAloneOutlivesCleaning();
        removedStaysRemoved();
        sleeperWakesTooLate();
        cleaningPacks();
        tombTellsWhereTheObjectIs();
        readBehindItsOpening();
        wrongQuestions();
        unitsOfALog();
        holdersByTheRing();
        end();
    }
}
