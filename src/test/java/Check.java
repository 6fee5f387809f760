import java.util.NoSuchElementException;

/** What the tests by hand share: answers against what is due, and REQUESTS that go their way at once. */
class Check {
    static final int THROWN = Integer.MIN_VALUE;
    static final int READ = 0;
    static final int WRITE = 1;
    static final int CHANGE = 2;
    static final int REMOVE = 3;

    static int wrong = 0;
    static int calls = 0;
    static String part = "";

    static void due(String call, int got, int want) {
        calls++;
        if (got != want) {
            wrong++;
            System.out.println(part + ": " + call + " answered " + got + ", due is " + want);
        }
    }

    static void due(String call, boolean got, boolean want) {
        due(call, got ? 1 : 0, want ? 1 : 0);
    }

    static int ask(LogCluster x, int place, int what) {
        try {
            return x.message(place, what);
        } catch (NoSuchElementException e) {
            return THROWN;
        }
    }

    /** A REQUEST is sent and delivered, both at place 0; the STATUS of its ANSWER, which is taken or lost. */
    static int done(LogCluster x, boolean take, int client, int kind, int key, int a, int b) {
        x.send(client, kind, key, a, b);
        if (x.deliver(0) != 0) {
            return THROWN;
        }
        int status = ask(x, 0, 4);
        if (take) {
            x.deliver(0);
        } else {
            x.drop(0);
        }
        return status;
    }

    static int take(LogCluster x, int client, int kind, int key, int a, int b) {
        return done(x, true, client, kind, key, a, b);
    }

    static int lose(LogCluster x, int client, int kind, int key, int a, int b) {
        return done(x, false, client, kind, key, a, b);
    }

    static void answer(LogCluster x, int client, int number, int status, int value, int version) {
        due("got(" + client + ", " + number + ", 0)", x.got(client, number, 0), status);
        due("got(" + client + ", " + number + ", 1)", x.got(client, number, 1), value);
        due("got(" + client + ", " + number + ", 2)", x.got(client, number, 2), version);
    }

    static void segments(LogCluster x, int server, int... names) {
        due("SEGMENTS", x.server(server, 4), names.length);
        for (int i = 0; i < names.length; i++) {
            due("NAME of " + i, x.segment(server, i, 0), names[i]);
        }
        due("behind the last", x.segment(server, names.length, 0), -1);
    }

    static void end() {
        System.out.println(wrong == 0 ? calls + " answers are as due" : wrong + " answers are not as due");
        if (wrong != 0) {
            System.exit(1);
        }
    }
}
