/** The document's Terms, part by part: for each sentence that names an edge a test of its own. */
public final class TermsTest extends Check {

    private static boolean isIn(int[] all, int one) {
        for (int i : all) {
            if (i == one) {
                return true;
            }
        }
        return false;
    }

    /** Copies on all disks, if these SEGMENTS of SERVER m are all there are, opened while some were not UP. */
    private static void copiesByTheRing(LogCluster x, int s, int r, int m, int[] notUp, int... names) {
        int[] copies = new int[s];
        for (int n : names) {
            int found = 0;
            for (int i = 0; i < s && found < r; i++) {
                int holder = (7 * n + 3 * m + i) % s;
                if (holder != m && !isIn(notUp, holder)) {
                    copies[holder]++;
                    found++;
                }
            }
        }
        for (int i = 0; i < s; i++) {
            due("copies at " + i, x.server(i, 8), copies[i]);
        }
    }

    private static void segment(LogCluster x, int server, int k, int entries, int units, int live) {
        due("ENTRIES of " + k, x.segment(server, k, 1), entries);
        due("UNITS of " + k, x.segment(server, k, 2), units);
        due("LIVE of " + k, x.segment(server, k, 3), live);
    }

    private static void units(LogCluster x, int server, int live, int notLive, int free) {
        due("LIVE UNITS", x.server(server, 5), live);
        due("not LIVE", x.server(server, 6), notLive);
        due("free", x.server(server, 7), free);
    }

    private static void owners(LogCluster x, int... due) {
        for (int t = 0; t < due.length; t++) {
            due("owner(" + t + ")", x.owner(t), due[t]);
        }
    }

    // ---- part 1: SERVERS, TABLETS, LOGS, what is LIVE

    private static void atFirst() {
        part = "SERVERS are at first UP, with the TABLETS of the MAP, SAFE 0, no LOG";
        for (int s = 4; s <= 8; s++) {
            LogCluster x = new LogCluster(s, 2, 6, 5);
            for (int i = 0; i < s; i++) {
                int tablets = 0;
                for (int t = 0; t < 8; t++) {
                    tablets += t % s == i ? 1 : 0;
                }
                int[] want = {0, 0, tablets, 0, 0, 0, 0, 0, 0, -1, 0, -1};
                for (int w = 0; w < want.length; w++) {
                    due("server(" + i + ", " + w + ")", x.server(i, w), want[w]);
                }
            }
            for (int w = 0; w < 12; w++) {
                due("count(" + w + ")", x.count(w), 0);
            }
            due("the COORDINATOR is there", lose(x, 0, READ, 0, 0, 0), 1);
        }
    }

    private static void tabletOfAKey() {
        part = "KEYS are 0 to 63: the TABLET is KEY / 8, at first TABLET t has t % S";
        for (int s = 4; s <= 8; s++) {
            LogCluster x = new LogCluster(s, 2, 6, 5);
            for (int k = 0; k < 64; k++) {
                x.send(k % 6, READ, k, 0, 0);
                due("the SERVER of KEY " + k, ask(x, 0, 3), k / 8 % s);
                x.drop(0);
            }
        }
    }

    private static void tabletsAreOwnedApart() {
        part = "the TABLET of a KEY is KEY / 8: the next TABLET has another OWNER";
        LogCluster x = new LogCluster(8, 2, 6, 5);
        for (int t = 0; t < 8; t++) {
            due("the first KEY of " + t, take(x, 0, WRITE, 8 * t, 100 + t, 0), 0);
            due("the last KEY of " + t, take(x, 0, WRITE, 8 * t + 7, 200 + t, 0), 0);
            due("peek", x.peek(t, 8 * t, 0), 100 + t);
            due("peek", x.peek(t, 8 * t + 7, 0), 200 + t);
            due("its neighbour", x.peek((t + 1) % 8, 8 * t + 7, 0), -1);
        }
    }

    private static void goingDownEndsFenced() {
        part = "going DOWN a SERVER loses its TABLETS, LOG, SAFE and is not FENCED any more";
        LogCluster x = new LogCluster(4, 2, 8, 5);
        take(x, 0, WRITE, 0, 5, 0);
        x.sleep(0);
        due("tick(3)", x.tick(3), 1);
        due("FENCED", x.server(0, 1), 1);
        due("TABLETS", x.server(0, 2), 2);
        due("SAFE", x.server(0, 3), 1);
        due("crash(0)", x.crash(0), true);
        due("FENCED", x.server(0, 1), 0);
        due("TABLETS", x.server(0, 2), 0);
        due("SAFE", x.server(0, 3), 0);
        due("it did not forget", x.count(8), 0);
        due("restart(0)", x.restart(0), true);
        due("tick(1)", x.tick(1), 0);
        due("it did not forget", x.count(8), 0);
    }

    private static void copiesStayOnDisks() {
        part = "going DOWN .. copies of SEGMENTS stay on disks";
        LogCluster x = new LogCluster(4, 2, 8, 5);
        take(x, 0, WRITE, 0, 5, 0);
        due("copies", x.server(1, 8), 1);
        x.crash(1);
        due("copies", x.server(1, 8), 1);
        due("HOLDERS", x.segment(0, 0, 4), 2);
        due("UP", x.segment(0, 0, 5), 1);
        x.restart(1);
        due("UP", x.segment(0, 0, 5), 2);
        x.crash(0);
        due("copies of one that is DOWN", x.server(1, 8), 1);
        x.restart(0);
        due("copies of one that came UP", x.server(2, 8), 1);
        due("it has no LOG", x.server(0, 4), 0);
    }

    private static void lostWhileOwner() {
        part = "A SERVER is LOST if it went DOWN while it was OWNER of a TABLET by the MAP";
        LogCluster x = new LogCluster(4, 2, 8, 5);
        x.crash(0);
        due("tick(3)", x.tick(3), 1);
        owners(x, 1, 1, 2, 3, 2, 1, 2, 3);
        x.restart(0);
        due("UP, LOST no more", x.tick(1), 0);
        due("DEAD ones", x.count(6), 1);
        x.crash(0);
        x.restart(0);
        due("it was OWNER of none", x.tick(1), 0);
        due("DEAD ones", x.count(6), 1);
        x.crash(3);
        due("tick(3)", x.tick(3), 1);
        owners(x, 1, 1, 2, 0, 2, 1, 2, 0);
        x.crash(0);
        x.restart(0);
        due("OWNER again: LOST again", x.tick(1), 1);
        due("DEAD ones", x.count(6), 3);
    }

    private static void lostTwice() {
        part = "A SERVER is LOST if it .. still is OWNER: its LOG is that which it had as it went DOWN";
        LogCluster x = new LogCluster(4, 2, 8, 5);
        take(x, 0, WRITE, 0, 5, 0);
        x.coordinator(true);
        x.crash(0);
        x.restart(0);
        due("tick(5)", x.tick(5), 0);
        due("copies", x.server(1, 8), 1);
        x.crash(0);
        due("copies", x.server(1, 8), 1);
        x.coordinator(false);
        due("tick(3)", x.tick(3), 1);
        due("owner(0)", x.owner(0), 1);
        due("peek", x.peek(1, 0, 0), 5);
    }

    private static void segmentToTheLastUnit() {
        part = "SEGMENTS have up to Z UNITS of ENTRIES";
        for (int z = 6; z <= 16; z++) {
            LogCluster x = new LogCluster(4, 2, z, 5);
            for (int i = 1; i < z; i++) {
                due("a RESULT alone", lose(x, i % 6, REMOVE, 0, 0, 0), 1);
                due("free", x.server(0, 7), z - 1 - i);
            }
            segments(x, 0, 0);
            segment(x, 0, 0, z, z, z - 1);
            due("one more", lose(x, 0, REMOVE, 0, 0, 0), 1);
            segments(x, 0, 0, 1);
            segment(x, 0, 1, 2, 2, 1);
        }
    }

    private static void entriesThatFillASegment() {
        part = "To APPEND: if the HEAD has not so many UNITS free: OPENING";
        LogCluster x = new LogCluster(4, 2, 7, 5);
        lose(x, 0, WRITE, 0, 1, 0);
        due("three UNITS fit into three", lose(x, 0, WRITE, 1, 2, 0), 0);
        segments(x, 0, 0);
        due("free", x.server(0, 7), 0);
        due("none is free", lose(x, 0, WRITE, 2, 3, 0), 0);
        segments(x, 0, 0, 1);
        due("a RESULT alone", lose(x, 1, REMOVE, 7, 0, 0), 1);
        due("three do not fit into two", lose(x, 0, WRITE, 3, 4, 0), 0);
        segments(x, 0, 0, 1, 2);
        due("two fit into three", lose(x, 0, REMOVE, 3, 0, 0), 0);
        due("two do not fit into one", lose(x, 0, REMOVE, 2, 0, 0), 0);
        segments(x, 0, 0, 1, 2, 3);
        segment(x, 0, 1, 3, 5, 2);
        segment(x, 0, 2, 3, 6, 3);
        segment(x, 0, 3, 2, 3, 2);
    }

    private static void namesOfAllSegments() {
        part = "NAMES are of all SEGMENTS ever opened, from 0 on";
        LogCluster x = new LogCluster(4, 2, 6, 5);
        lose(x, 0, WRITE, 0, 1, 0);
        lose(x, 0, WRITE, 8, 1, 0);
        lose(x, 0, WRITE, 0, 1, 0);
        lose(x, 0, WRITE, 16, 1, 0);
        segments(x, 0, 0, 2);
        segments(x, 1, 1);
        segments(x, 2, 3);
        segments(x, 3);
        due("HEAD", x.server(0, 11), 2);
        due("HEAD", x.server(1, 11), 1);
        due("SEGMENTS opened ever", x.count(2), 4);
    }

    private static void digestsAreNeverLive() {
        part = "DIGESTS are never LIVE";
        for (int z = 6; z <= 16; z += 5) {
            LogCluster x = new LogCluster(4, 2, z, 5);
            take(x, 0, READ, 0, 0, 0);
            segment(x, 0, 0, 1, 1, 0);
            units(x, 0, 0, 1, z - 1);
        }
    }

    private static void liveObjects() {
        part = "LIVE is the OBJECT of a KEY with the greatest version of all its OBJECTS and TOMBS";
        LogCluster x = new LogCluster(4, 2, 16, 5);
        lose(x, 0, WRITE, 0, 1, 0);
        units(x, 0, 3, 1, 12);
        lose(x, 1, WRITE, 0, 2, 0);
        units(x, 0, 4, 3, 9);
        due("value", x.peek(0, 0, 0), 2);
        lose(x, 2, WRITE, 1, 3, 0);
        units(x, 0, 7, 3, 6);
        lose(x, 3, REMOVE, 0, 0, 0);
        units(x, 0, 7, 5, 4);
        due("value", x.peek(0, 0, 0), -1);
        due("version", x.peek(0, 0, 1), 0);
        lose(x, 4, CHANGE, 0, 4, 0);
        units(x, 0, 10, 5, 1);
        due("value", x.peek(0, 0, 0), 4);
        due("version", x.peek(0, 0, 1), 5);
        due("value of another KEY", x.peek(0, 1, 0), 3);
    }

    private static void liveTombs() {
        part = "LIVE is a TOMB whose SEGMENT is in the LOG";
        LogCluster x = new LogCluster(4, 2, 6, 5);
        take(x, 0, WRITE, 0, 1, 0);
        take(x, 0, REMOVE, 0, 0, 0);
        segment(x, 0, 0, 3, 6, 2);
        lose(x, 1, WRITE, 2, 2, 0);
        take(x, 0, WRITE, 1, 3, 0);
        segment(x, 0, 0, 3, 6, 1);
        take(x, 0, WRITE, 1, 4, 0);
        segment(x, 0, 0, 3, 6, 1);
        segment(x, 0, 1, 2, 4, 3);
        segment(x, 0, 2, 2, 4, 0);
        segment(x, 0, 3, 2, 4, 3);
        take(x, 0, WRITE, 1, 5, 0);
        segments(x, 0, 3, 4, 5);
        segment(x, 0, 0, 2, 4, 0);
        // TOMB, OBJECT, RESULT: the TOMB's SEGMENT 0 is no more
        segment(x, 0, 1, 3, 4, 3);
        due("what was removed", x.peek(0, 0, 0), -1);
    }

    private static void liveResults() {
        part = "LIVE is a RESULT whose number is ACKED of its client in the LOG or more";
        LogCluster x = new LogCluster(4, 2, 16, 5);
        lose(x, 0, WRITE, 0, 1, 0);
        lose(x, 0, WRITE, 0, 2, 0);
        units(x, 0, 4, 3, 9);
        x.again(0, 1);
        x.deliver(0);
        due("number 1 has its answer", x.deliver(0), 4);
        due("the LOG does not know", x.server(0, 5), 4);
        due("ACKED is 2 in the LOG by this one", lose(x, 0, WRITE, 0, 3, 0), 0);
        // RESULTS 2 and 3 and an OBJECT; not 1
        units(x, 0, 4, 6, 6);
        due("of another client", lose(x, 1, REMOVE, 7, 0, 0), 1);
        units(x, 0, 5, 6, 5);
    }

    /** DIGEST and NOTE (client 0, acked 2) at SERVER 2, which has TABLET 4 then. */
    private static LogCluster noteAlone() {
        LogCluster x = new LogCluster(4, 2, 16, 5);
        take(x, 0, WRITE, 0, 1, 0);
        lose(x, 0, WRITE, 0, 2, 0);
        x.crash(0);
        due("tick(3)", x.tick(3), 1);
        due("owner(4)", x.owner(4), 2);
        segment(x, 2, 0, 2, 2, 1);
        return x;
    }

    private static void liveNotes() {
        part = "LIVE is a NOTE that has ACKED of its client, if no RESULT has";
        LogCluster x = noteAlone();
        due("another client's RESULT", lose(x, 1, REMOVE, 16, 0, 0), 1);
        units(x, 2, 2, 1, 13);
        due("a RESULT of the same ACKED", lose(x, 0, REMOVE, 16, 0, 0), 1);
        units(x, 2, 2, 2, 12);
        x = noteAlone();
        x.again(0, 2);
        x.deliver(0);
        due("number 2 has its answer", x.deliver(0), 4);
        due("the NOTE knows nothing of it", x.server(2, 5), 1);
        due("a RESULT of a greater ACKED", lose(x, 0, REMOVE, 16, 0, 0), 1);
        units(x, 2, 1, 2, 13);
    }

    private static void versionsNotPlaces() {
        part = "LIVE is the OBJECT of a KEY with the greatest version, wherever it lies";
        LogCluster x = new LogCluster(4, 2, 6, 5);
        lose(x, 0, WRITE, 0, 10, 0);
        lose(x, 2, REMOVE, 7, 0, 0);
        lose(x, 1, REMOVE, 0, 0, 0);
        take(x, 5, WRITE, 1, 11, 0);
        take(x, 5, WRITE, 1, 12, 0);
        lose(x, 3, WRITE, 0, 13, 0);
        segments(x, 0, 0, 1, 2, 3);
        segment(x, 0, 0, 3, 5, 2);
        segment(x, 0, 1, 3, 6, 2);
        segment(x, 0, 2, 2, 4, 3);
        lose(x, 4, WRITE, 2, 14, 0);
        segments(x, 0, 2, 3, 4, 5);
        // two RESULTS, a TOMB and a RESULT lie behind the OBJECT by NAMES
        segment(x, 0, 2, 4, 4, 3);
        due("value", x.peek(0, 0, 0), 13);
        due("version", x.peek(0, 0, 1), 5);
        due("READ", take(x, 3, READ, 0, 0, 0), 0);
        due("value", x.got(3, 2, 1), 13);
        part = "There is a RESULT of that client and number in its LOG: first in a packed SEGMENT";
        x.again(0, 1);
        due("deliver", x.deliver(0), 0);
        due("deliver", x.deliver(0), 4);
        answer(x, 0, 1, 0, 10, 1);
        due("effects", x.count(11), 6);
    }

    private static void ackedFirstInASegment() {
        part = "ACKED of a client in a LOG is the greatest acked of its RESULTS: first in a packed SEGMENT";
        LogCluster x = new LogCluster(4, 2, 6, 5);
        x.send(0, WRITE, 0, 1, 0);
        due("a late one", x.twice(0), 1);
        x.deliver(0);
        x.deliver(0);
        lose(x, 0, REMOVE, 7, 0, 0);
        take(x, 4, WRITE, 0, 9, 0);
        lose(x, 2, WRITE, 2, 2, 0);
        lose(x, 3, WRITE, 3, 3, 0);
        segments(x, 0, 0, 1, 2, 3);
        segment(x, 0, 0, 3, 5, 1);
        segment(x, 0, 1, 2, 4, 3);
        lose(x, 1, WRITE, 1, 1, 0);
        segments(x, 0, 2, 3, 4, 5);
        segment(x, 0, 2, 3, 4, 4);
        due("number 1 with ACKED 1", x.deliver(1), 0);
        due("STALE", ask(x, 1, 4), 5);
        due("effects", x.count(11), 5);
        part = "CLEANING of a packed SEGMENT: the first that is LIVE in it stays";
        for (int i = 4; i <= 5; i++) {
            lose(x, i, WRITE, i, i, 0);
        }
        segments(x, 0, 6, 7, 8, 9);
        segment(x, 0, 2, 4, 6, 6);
        due("again", x.again(0, 2), 0);
        due("deliver", x.deliver(0), 0);
        due("as the RESULT tells", ask(x, 0, 4), 1);
        due("ENTRIES APPENDED", x.count(7), 8);
    }

    // ---- part 2: RING, OPENING, CLEANING, APPEND

    private static void ringOfThree() {
        part = "RING: from (7 n + 3 m) % S on, upwards, 0 behind S - 1, without m";
        for (int s = 4; s <= 8; s++) {
            for (int m = 0; m < s; m++) {
                LogCluster x = new LogCluster(s, 3, 6, 16);
                int[] names = new int[11];
                for (int n = 0; n < names.length; n++) {
                    names[n] = n;
                    lose(x, n % 6, WRITE, 8 * m, n, 0);
                }
                segments(x, m, names);
                copiesByTheRing(x, s, 3, m, new int[0], names);
            }
        }
    }

    private static void openingNeedsOthers() {
        part = "OPENING: refused, if fewer than R SERVERS but m are UP";
        for (int r = 2; r <= 3; r++) {
            for (int gone = 0; gone <= 4; gone++) {
                LogCluster x = new LogCluster(5, r, 8, 5);
                for (int i = 1; i <= gone; i++) {
                    due("not UP", i % 2 == 0 ? x.crash(i) : x.sleep(i), true);
                }
                boolean opens = 4 - gone >= r;
                due("READ", lose(x, 0, READ, 0, 0, 0), opens ? 1 : 4);
                due("SEGMENTS", x.server(0, 4), opens ? 1 : 0);
                due("WRITE", lose(x, 0, WRITE, 0, 7, 0), opens ? 0 : 4);
                due("peek", x.peek(0, 0, 0), opens ? 7 : -1);
                due("SEGMENTS opened ever", x.count(2), opens ? 1 : 0);
            }
        }
    }

    private static void refusedOpeningLeavesTheHead() {
        part = "OPENING: refused (too few are UP): else there is no HEAD any more";
        LogCluster x = new LogCluster(4, 2, 6, 5);
        take(x, 0, WRITE, 0, 1, 0);
        x.sleep(1);
        x.crash(3);
        due("READ", lose(x, 0, READ, 0, 0, 0), 4);
        due("WRITE", lose(x, 0, WRITE, 0, 2, 0), 4);
        due("HEAD", x.server(0, 11), 0);
        due("ENTRIES APPENDED", x.count(7), 1);
        due("SAFE", x.server(0, 3), 1);
        x.wake(1);
        due("the HEAD's HOLDERS are UP again", take(x, 1, READ, 0, 0, 0), 0);
        due("REMOVE", take(x, 1, REMOVE, 0, 0, 0), 0);
        segments(x, 0, 0);
        due("SEGMENTS opened ever", x.count(2), 1);
        part = "OPENING: refused, if the COORDINATOR is away";
        x = new LogCluster(4, 2, 6, 5);
        take(x, 0, WRITE, 0, 1, 0);
        x.coordinator(true);
        due("WRITE", lose(x, 0, WRITE, 0, 2, 0), 4);
        due("HEAD", x.server(0, 11), 0);
        due("a READ needs no room", take(x, 1, READ, 0, 0, 0), 0);
        x.sleep(2);
        due("a READ needs HOLDERS that are UP", lose(x, 1, READ, 0, 0, 0), 4);
        due("HEAD", x.server(0, 11), 0);
        x.coordinator(false);
        due("OPENING", lose(x, 1, READ, 0, 0, 0), 0);
        due("HEAD", x.server(0, 11), 1);
    }

    /** SERVER 0 with five SEGMENTS (NAMES 1 to 5) of four LIVE UNITS each, SERVER 3 with one. */
    private static LogCluster fullMemory() {
        LogCluster x = new LogCluster(4, 2, 6, 5);
        due("WRITE at 3", lose(x, 5, WRITE, 24, 99, 0), 0);
        for (int i = 0; i < 5; i++) {
            due("WRITE", lose(x, i, WRITE, i, 10 + i, 0), 0);
            due("REMOVE", lose(x, i, REMOVE, 7, 0, 0), 1);
            due("SEGMENTS", x.server(0, 4), i + 1);
        }
        return x;
    }

    private static void refusedBehindCleaning() {
        part = "OPENING: if, behind CLEANING, the LOG has M SEGMENTS or more, refused";
        LogCluster x = fullMemory();
        due("HEAD", x.server(0, 11), 5);
        due("CLEANINGS that did something", x.count(3), 0);
        due("WRITE", lose(x, 5, WRITE, 5, 0, 0), 4);
        due("there is no HEAD any more", x.server(0, 11), -1);
        segments(x, 0, 1, 2, 3, 4, 5);
        due("a UNIT would be free, but there is no HEAD", lose(x, 5, REMOVE, 7, 0, 0), 4);
        due("READ", lose(x, 5, READ, 0, 0, 0), 4);
        due("SEGMENTS opened ever", x.count(2), 6);
        due("CLEANINGS that did something", x.count(3), 0);
        x.again(0, 1);
        due("what has a RESULT needs no HEAD", x.deliver(0), 0);
        due("STATUS", ask(x, 0, 4), 0);
        x.drop(0);
        part = "M is not asked in recoveries";
        x.crash(3);
        due("tick(3)", x.tick(3), 1);
        due("owner(3)", x.owner(3), 0);
        segments(x, 0, 1, 2, 3, 4, 5, 6);
        segment(x, 0, 5, 3, 4, 3);
        due("peek", x.peek(0, 24, 0), 99);
        due("HEAD", x.server(0, 11), 6);
        due("it has room", lose(x, 5, REMOVE, 7, 0, 0), 1);
        due("the HEAD is full: refused", lose(x, 5, WRITE, 5, 0, 0), 4);
        segments(x, 0, 1, 2, 3, 4, 5, 6);
    }

    private static void cleaningFromMLessOne() {
        part = "OPENING: if the LOG has M - 1 SEGMENTS or more, CLEANING";
        for (int m = 5; m <= 16; m++) {
            LogCluster x = new LogCluster(4, 2, 6, m);
            for (int i = 1; i < m; i++) {
                due("WRITE", take(x, 0, WRITE, 0, i, 0), 0);
                due("SEGMENTS", x.server(0, 4), i);
                due("CLEANINGS", x.count(3), 0);
            }
            due("WRITE", take(x, 0, WRITE, 0, m, 0), 0);
            due("CLEANINGS", x.count(3), 1);
            segments(x, 0, m - 2, m - 1);
        }
    }

    private static void cleaningLeavesTheLatest() {
        part = "CLEANING: all SEGMENTS but the one opened latest by OPENING";
        LogCluster x = new LogCluster(4, 2, 6, 5);
        take(x, 0, READ, 0, 0, 0);
        int[] sleepers = {1, 2, 3};
        for (int i : sleepers) {
            x.sleep(i);
            due("a READ that opens", take(x, 0, READ, 0, 0, 0), 1);
            x.wake(i);
        }
        segments(x, 0, 0, 1, 2, 3);
        due("LIVE UNITS", x.server(0, 5), 0);
        due("CLEANINGS", x.count(3), 0);
        x.sleep(1);
        due("a READ that opens", take(x, 0, READ, 0, 0, 0), 1);
        segments(x, 0, 3, 4);
        due("CLEANINGS", x.count(3), 1);
        due("copies", x.server(1, 8), 1);
        due("copies", x.server(2, 8), 2);
        due("copies", x.server(3, 8), 1);
    }

    private static void cleaningByLiveUnits() {
        part = "CLEANING: by how many LIVE UNITS they have, of like ones by NAMES; Z at most together";
        LogCluster x = new LogCluster(6, 2, 6, 5);
        lose(x, 0, WRITE, 0, 1, 0);
        lose(x, 1, REMOVE, 7, 0, 0);
        lose(x, 2, REMOVE, 7, 0, 0);
        lose(x, 3, WRITE, 1, 2, 0);
        lose(x, 4, WRITE, 2, 3, 0);
        lose(x, 5, WRITE, 3, 4, 0);
        segments(x, 0, 0, 1, 2, 3);
        segment(x, 0, 0, 4, 6, 5);
        segment(x, 0, 1, 2, 4, 3);
        segment(x, 0, 2, 2, 4, 3);
        lose(x, 0, WRITE, 4, 5, 0);
        segments(x, 0, 0, 3, 4, 5);
        segment(x, 0, 2, 4, 6, 6);
        segment(x, 0, 3, 2, 4, 3);
        due("CLEANINGS", x.count(3), 1);
        due("ENTRIES APPENDED", x.count(7), 7);
        due("HEAD", x.server(0, 11), 5);
        copiesByTheRing(x, 6, 2, 0, new int[0], 0, 3, 4, 5);
        for (int k = 0; k < 5; k++) {
            due("peek", x.peek(0, k, 0), k + 1);
        }
    }

    private static void holdersOfThePacked() {
        part = "CLEANING: a new SEGMENT, HOLDERS as in OPENING: the first R of its RING that are UP";
        for (int asleep = 1; asleep < 6; asleep++) {
            LogCluster x = new LogCluster(6, 3, 6, 5);
            x.sleep(asleep);
            for (int i = 0; i < 5; i++) {
                due("WRITE", lose(x, i, WRITE, i, i, 0), 0);
            }
            segments(x, 0, 2, 3, 4, 5);
            due("HOLDERS", x.segment(0, 2, 4), 3);
            due("UP", x.segment(0, 2, 5), 3);
            copiesByTheRing(x, 6, 3, 0, new int[] {asleep}, 2, 3, 4, 5);
        }
    }

    private static void cleaningOfOneMore() {
        part = "CLEANING: as many as have Z LIVE UNITS at most together: if these are two or more";
        LogCluster x = new LogCluster(4, 2, 6, 5);
        lose(x, 0, WRITE, 0, 1, 0);
        lose(x, 1, WRITE, 1, 2, 0);
        lose(x, 2, REMOVE, 7, 0, 0);
        lose(x, 3, WRITE, 2, 3, 0);
        lose(x, 4, REMOVE, 7, 0, 0);
        lose(x, 5, WRITE, 3, 4, 0);
        segment(x, 0, 0, 2, 4, 3);
        segment(x, 0, 1, 3, 5, 4);
        segment(x, 0, 2, 3, 5, 4);
        due("three and four are above six", lose(x, 0, WRITE, 4, 5, 0), 0);
        segments(x, 0, 0, 1, 2, 3, 4);
        due("CLEANINGS that did something", x.count(3), 0);
        due("SEGMENTS opened ever", x.count(2), 5);
    }

    private static void cleaningOfThree() {
        part = "CLEANING: as many as have Z LIVE UNITS at most together";
        for (int z = 8; z <= 9; z++) {
            LogCluster x = new LogCluster(4, 2, z, 5);
            for (int i = 0; i < 4; i++) {
                due("WRITE", lose(x, i, WRITE, i, i, 0), 0);
                due("WRITE", take(x, 5, WRITE, 7, i, 0), 0);
            }
            segments(x, 0, 0, 1, 2, 3);
            for (int i = 0; i < 3; i++) {
                segment(x, 0, i, 3, 7, 3);
            }
            due("WRITE", lose(x, 4, WRITE, 4, 4, 0), 0);
            if (z == 9) {
                segments(x, 0, 3, 4, 5);
                segment(x, 0, 1, 6, 9, 9);
            } else {
                segments(x, 0, 2, 3, 4, 5);
                segment(x, 0, 2, 4, 6, 6);
            }
        }
    }

    private static void cleaningWithoutPacking() {
        part = "CLEANING: those without LIVE UNITS go; one other alone stays";
        LogCluster x = new LogCluster(4, 2, 6, 5);
        lose(x, 1, WRITE, 1, 9, 0);
        for (int i = 0; i < 3; i++) {
            take(x, 0, WRITE, 0, i, 0);
        }
        segments(x, 0, 0, 1, 2, 3);
        take(x, 0, WRITE, 0, 3, 0);
        segments(x, 0, 0, 3, 4);
        due("CLEANINGS", x.count(3), 1);
        due("SEGMENTS opened ever", x.count(2), 5);
        copiesByTheRing(x, 4, 2, 0, new int[0], 0, 3, 4);
    }

    private static void liveAheadOfCleaning() {
        part = "CLEANING: PARTS that are LIVE ahead of CLEANING, each as an ENTRY of its own";
        LogCluster x = new LogCluster(4, 2, 6, 5);
        take(x, 0, WRITE, 0, 1, 0);
        due("another version", take(x, 0, CHANGE, 0, 9, 7), 2);
        take(x, 0, REMOVE, 0, 0, 0);
        take(x, 0, WRITE, 1, 2, 0);
        lose(x, 1, WRITE, 2, 3, 0);
        take(x, 0, WRITE, 1, 4, 0);
        segments(x, 0, 0, 1, 2, 3);
        segment(x, 0, 0, 3, 5, 0);
        segment(x, 0, 1, 3, 6, 1);
        segment(x, 0, 2, 2, 4, 3);
        take(x, 0, WRITE, 1, 5, 0);
        segments(x, 0, 3, 4, 5);
        // SEGMENT 0 went in this CLEANING, but its TOMB was LIVE ahead of it
        segment(x, 0, 1, 3, 4, 3);
        due("CLEANINGS", x.count(3), 1);
    }

    private static void cleaningOfFullSegments() {
        part = "CLEANING of SEGMENTS of Z ENTRIES";
        LogCluster x = new LogCluster(4, 2, 6, 5);
        for (int i = 0; i < 5; i++) {
            lose(x, 0, REMOVE, 7, 0, 0);
        }
        for (int i = 0; i < 5; i++) {
            lose(x, 1, REMOVE, 7, 0, 0);
        }
        for (int n = 1; n <= 4; n++) {
            for (int c = 0; c < 2; c++) {
                x.again(c, n);
                x.deliver(0);
                due("deliver", x.deliver(0), 4);
            }
        }
        lose(x, 0, REMOVE, 7, 0, 0);
        lose(x, 1, REMOVE, 7, 0, 0);
        lose(x, 2, WRITE, 2, 5, 0);
        segments(x, 0, 0, 1, 2);
        segment(x, 0, 0, 6, 6, 1);
        segment(x, 0, 1, 6, 6, 1);
        lose(x, 3, WRITE, 3, 6, 0);
        segments(x, 0, 0, 1, 2, 3);
        lose(x, 4, WRITE, 4, 7, 0);
        segments(x, 0, 2, 3, 4, 5);
        segment(x, 0, 2, 2, 2, 2);
        for (int c = 0; c < 2; c++) {
            x.again(c, 5);
            due("deliver", x.deliver(0), 0);
            due("as the RESULT tells", ask(x, 0, 4), 1);
            x.drop(0);
        }
        due("ENTRIES APPENDED", x.count(7), 15);
        part = "CLEANING: one SEGMENT alone without LIVE UNITS goes";
        x = new LogCluster(4, 2, 6, 5);
        take(x, 0, WRITE, 0, 1, 0);
        take(x, 0, WRITE, 0, 2, 0);
        for (int i = 1; i <= 2; i++) {
            lose(x, i, REMOVE, 7, 0, 0);
        }
        segment(x, 0, 1, 4, 6, 5);
        for (int i = 1; i <= 2; i++) {
            lose(x, i, WRITE, i, 3, 0);
            lose(x, i, REMOVE, 7, 0, 0);
        }
        segments(x, 0, 0, 1, 2, 3);
        segment(x, 0, 0, 2, 4, 0);
        lose(x, 3, WRITE, 3, 4, 0);
        segments(x, 0, 1, 2, 3, 4);
        due("CLEANINGS that did something", x.count(3), 1);
    }

    /**
     * SERVER 1 has the SEGMENTS 1 to 5 of five LIVE RESULTS each, SERVER 3 one with a version; as
     * that is DEAD, SERVER 1 opens SEGMENT 7 for TABLET 7, of which there is nothing to APPEND.
     */
    private static LogCluster beyondMemory() {
        LogCluster x = new LogCluster(4, 2, 6, 5);
        lose(x, 5, WRITE, 24, 1, 0);
        int[] clients = {7, 6, 6, 6};
        for (int c = 0; c < clients.length; c++) {
            for (int i = 0; i < clients[c]; i++) {
                due("a RESULT alone", lose(x, c, REMOVE, 8, 0, 0), 1);
            }
        }
        segments(x, 1, 1, 2, 3, 4, 5);
        due("LIVE UNITS", x.server(1, 5), 25);
        x.crash(3);
        due("tick(3)", x.tick(3), 1);
        due("owner(7)", x.owner(7), 1);
        segments(x, 1, 1, 2, 3, 4, 5, 7);
        segment(x, 1, 5, 1, 1, 0);
        due("HEAD", x.server(1, 11), 7);
        return x;
    }

    private static void opensBeyondMemory() {
        part = "it OPENS a new HEAD: M is not asked in recoveries";
        beyondMemory();
    }

    /** The latest one by OPENING is neither the HEAD any more nor of the greatest NAME. */
    private static void latestIsNotTheGreatestName() {
        part = "CLEANING: all SEGMENTS but the one opened latest by OPENING, packed ones being later";
        LogCluster x = beyondMemory();
        for (int n = 1; n <= 4; n++) {
            x.again(0, n);
            x.deliver(0);
            due("deliver", x.deliver(0), 4);
        }
        due("a RESULT of ACKED 5", lose(x, 0, REMOVE, 8, 0, 0), 1);
        segment(x, 1, 0, 6, 6, 1);
        segment(x, 1, 1, 6, 6, 5);
        segment(x, 1, 5, 2, 2, 1);
        x.restart(3);
        x.sleep(2);
        due("M SEGMENTS behind CLEANING: refused", lose(x, 5, READ, 8, 0, 0), 4);
        segments(x, 1, 3, 4, 5, 7, 8);
        segment(x, 1, 4, 6, 6, 6);
        due("HEAD", x.server(1, 11), -1);
        due("CLEANINGS that did something", x.count(3), 1);
        due("the same once more", lose(x, 5, READ, 8, 0, 0), 4);
        segments(x, 1, 3, 4, 5, 7, 8);
        due("CLEANINGS that did something", x.count(3), 1);
        due("SEGMENTS opened ever", x.count(2), 9);
    }

    private static void holderThatIsNotUp() {
        part = "To APPEND: if one of the HEAD's HOLDERS is not UP: OPENING";
        LogCluster x = new LogCluster(5, 2, 16, 5);
        take(x, 0, WRITE, 0, 1, 0);
        take(x, 0, WRITE, 0, 2, 0);
        segments(x, 0, 0);
        x.sleep(1);
        take(x, 0, WRITE, 0, 3, 0);
        segments(x, 0, 0, 1);
        x.crash(3);
        take(x, 0, WRITE, 0, 4, 0);
        segments(x, 0, 0, 1, 2);
        x.restart(3);
        x.wake(1);
        take(x, 0, WRITE, 0, 5, 0);
        segments(x, 0, 0, 1, 2);
        segment(x, 0, 2, 3, 7, 3);
        x.crash(0);
        due("tick(3)", x.tick(3), 2);
        due("peek", x.peek(x.owner(0), 0, 0), 5);
    }

    private static void refusedIsNothing() {
        part = "To APPEND: OPENING (refused: nothing is appended)";
        LogCluster x = new LogCluster(4, 2, 6, 5);
        x.coordinator(true);
        due("WRITE", lose(x, 0, WRITE, 0, 1, 0), 4);
        due("SAFE", x.server(0, 3), 0);
        due("ENTRIES APPENDED", x.count(7), 0);
        due("effects", x.count(11), 0);
        due("SEGMENTS opened ever", x.count(2), 0);
        x.coordinator(false);
        x.again(0, 1);
        due("there is no RESULT: it is done now", x.deliver(0), 0);
        due("deliver", x.deliver(0), 4);
        answer(x, 0, 1, 0, 1, 1);
        due("effects", x.count(11), 1);
    }

    // ---- part 3: REQUESTS, CUT, ANSWERS

    private static void numbersToForty() {
        part = "A client numbers its REQUESTS from 1 on, at most 40";
        LogCluster x = new LogCluster(4, 2, 6, 5);
        for (int c = 0; c < 6; c += 5) {
            for (int i = 1; i <= 40; i++) {
                due("send", x.send(c, WRITE, 0, i, 0), i);
                x.drop(0);
            }
            due("a 41st", x.send(c, READ, 0, 0, 0), -1);
            due("nothing is in the NET", x.count(1), 0);
            due("ACKED", x.acked(c), 1);
            due("the 40th again", x.again(c, 40), 0);
            due("deliver", x.deliver(0), 0);
            due("deliver", x.deliver(0), 4);
            due("value", x.got(c, 40, 1), 40);
        }
        due("another client", x.send(1, READ, 0, 0, 0), 1);
    }

    private static void fullNetAnswers() {
        part = "The NET has 40 places; the ANSWER takes the place of the REQUEST";
        LogCluster x = new LogCluster(4, 2, 16, 5);
        for (int i = 0; i < 40; i++) {
            due("send", x.send(i / 8, READ, i, 0, 0), i % 8 + 1);
        }
        due("the NET is full", x.send(5, READ, 0, 0, 0), -3);
        due("again", x.again(0, 1), -3);
        due("twice", x.twice(0), -3);
        due("MESSAGES", x.count(1), 40);
        due("deliver(39)", x.deliver(39), 0);
        due("an ANSWER", ask(x, 39, 0), 1);
        due("MESSAGES", x.count(1), 40);
        due("deliver(39)", x.deliver(39), 4);
        due("MESSAGES", x.count(1), 39);
        due("send", x.send(5, READ, 0, 0, 0), 1);
        due("the last place", ask(x, 39, 1), 5);
        due("the NET is full", x.send(5, READ, 0, 0, 0), -3);
    }

    private static void changes() {
        part = "CHANGE to a value, if the version is as told (0: if there is no OBJECT)";
        LogCluster x = new LogCluster(4, 2, 16, 5);
        due("version -1 of nothing", take(x, 0, CHANGE, 0, 5, -1), 2);
        answer(x, 0, 1, 2, 0, 0);
        due("version 1 of nothing", take(x, 0, CHANGE, 0, 5, 1), 2);
        answer(x, 0, 2, 2, 0, 0);
        due("version 0 of nothing", take(x, 0, CHANGE, 0, 5, 0), 0);
        answer(x, 0, 3, 0, 5, 1);
        due("version 0 of one", take(x, 0, CHANGE, 0, 6, 0), 2);
        answer(x, 0, 4, 2, 5, 1);
        due("version 2 of 1", take(x, 0, CHANGE, 0, 6, 2), 2);
        answer(x, 0, 5, 2, 5, 1);
        due("version 1 of 1", take(x, 0, CHANGE, 0, 6, 1), 0);
        answer(x, 0, 6, 0, 6, 2);
        due("REMOVE", take(x, 0, REMOVE, 0, 0, 0), 0);
        answer(x, 0, 7, 0, 0, 3);
        due("the version of the TOMB", take(x, 0, CHANGE, 0, 7, 3), 2);
        answer(x, 0, 8, 2, 0, 0);
        due("SAFE", x.server(0, 3), 3);
        due("effects", x.count(11), 3);
    }

    private static void valuesOfAnySize() {
        part = "WRITE a value";
        int[] values = {Integer.MIN_VALUE, -1000000, -1, 0, Integer.MAX_VALUE};
        LogCluster x = new LogCluster(4, 2, 16, 5);
        for (int i = 0; i < values.length; i++) {
            due("WRITE", take(x, 0, WRITE, 0, values[i], 0), 0);
            due("READ", take(x, 1, READ, 0, 0, 0), 0);
            answer(x, 1, i + 1, 0, values[i], i + 1);
            due("peek", x.peek(0, 0, 0), values[i]);
            due("peek", x.peek(0, 0, 1), i + 1);
        }
    }

    private static void readsAreNeverStale() {
        part = "READ .. Others: a number below A: STALE";
        LogCluster x = new LogCluster(4, 2, 16, 5);
        x.send(0, READ, 0, 0, 0);
        x.twice(0);
        x.deliver(0);
        due("deliver", x.deliver(0), 4);
        take(x, 0, WRITE, 0, 5, 0);
        take(x, 0, WRITE, 0, 6, 0);
        due("a late READ", x.deliver(1), 0);
        due("STATUS", ask(x, 1, 4), 0);
        due("deliver", x.deliver(1), 5);
        x.again(0, 1);
        due("a READ again", x.deliver(0), 0);
        due("STATUS", ask(x, 0, 4), 0);
        due("no RESULTS by READS", x.count(7), 2);
        due("the first ANSWER stays", x.got(0, 1, 0), 1);
    }

    private static void readNeedsNoRoom() {
        part = "READ: if there is no HEAD, or one of its HOLDERS is not UP: OPENING";
        LogCluster x = new LogCluster(4, 2, 7, 5);
        take(x, 0, WRITE, 0, 1, 0);
        take(x, 0, WRITE, 0, 2, 0);
        due("free", x.server(0, 7), 0);
        due("READ", take(x, 0, READ, 0, 0, 0), 0);
        segments(x, 0, 0);
        x.sleep(3);
        due("one that is no HOLDER", take(x, 0, READ, 0, 0, 0), 0);
        segments(x, 0, 0);
        x.sleep(1);
        due("too few are UP", lose(x, 0, READ, 0, 0, 0), 4);
        x.wake(3);
        due("OPENING", take(x, 0, READ, 0, 0, 0), 0);
        segments(x, 0, 0, 1);
        segment(x, 0, 1, 1, 1, 0);
    }

    private static void staleByTheLog() {
        part = "A is ACKED of the client in its LOG; a number below A: STALE";
        LogCluster x = new LogCluster(4, 2, 16, 5);
        x.send(0, WRITE, 0, 1, 0);
        x.twice(0);
        x.deliver(0);
        x.deliver(0);
        x.send(0, WRITE, 0, 2, 0);
        due("twice", x.twice(0), 2);
        due("deliver", x.deliver(0), 0);
        due("number 1 with ACKED 1, the LOG has 2", x.deliver(1), 0);
        due("STALE, though there is a RESULT", ask(x, 1, 4), 5);
        due("number 2", x.deliver(2), 0);
        due("2 is not below 2: as the RESULT tells", ask(x, 2, 4), 0);
        due("effects", x.count(11), 2);
        part = "or that of the REQUEST, if that is more";
        x = new LogCluster(4, 2, 16, 5);
        take(x, 0, WRITE, 0, 1, 0);
        x.again(0, 1);
        due("number 1 with ACKED 2, the LOG has 1", x.deliver(0), 0);
        due("STALE", ask(x, 0, 4), 5);
        due("deliver", x.deliver(0), 5);
        part = "a number below A: STALE (at a SERVER that knows nothing of it)";
        x = new LogCluster(4, 2, 16, 5);
        x.send(0, WRITE, 0, 1, 0);
        x.send(0, WRITE, 0, 2, 0);
        x.deliver(0);
        x.deliver(0);
        x.crash(0);
        x.tick(3);
        due("again", x.again(0, 1), 0);
        due("deliver", x.deliver(0), 0);
        due("STALE", ask(x, 0, 4), 5);
        part = "an ANSWER that is STALE is an answer";
        x = new LogCluster(4, 2, 16, 5);
        x.send(0, WRITE, 0, 1, 0);
        x.send(0, WRITE, 0, 2, 0);
        x.twice(0);
        x.deliver(0);
        x.deliver(0);
        due("number 2", x.deliver(1), 0);
        due("number 2 has its answer", x.deliver(1), 4);
        x.send(0, WRITE, 0, 3, 0);
        due("ACKED of its sending is 3", x.deliver(0), 0);
        due("number 1", x.deliver(2), 0);
        due("STALE", ask(x, 2, 4), 5);
        due("it had one", x.deliver(2), 5);
        answer(x, 0, 1, 0, 1, 1);
    }

    private static void resultsHaveA() {
        part = "RESULTS have A as acked: the greater one of the LOG and the REQUEST";
        LogCluster x = new LogCluster(4, 2, 16, 5);
        x.send(0, WRITE, 0, 1, 0);
        x.send(0, WRITE, 0, 2, 0);
        x.deliver(0);
        x.deliver(0);
        take(x, 0, WRITE, 0, 3, 0);
        due("RESULTS 1 and 3 have 1 and 2", x.server(0, 5), 3);
        due("number 2, sent with ACKED 1", x.deliver(1), 0);
        // ACKED is 2: RESULTS 2 and 3 and an OBJECT
        units(x, 0, 4, 6, 6);
        x.crash(0);
        x.restart(0);
        due("tick(1)", x.tick(1), 1);
        due("DIGEST, NOTE, OBJECT, RESULTS", x.segment(0, 0, 1), 5);
        due("the NOTE is not LIVE", x.server(0, 5), 4);
        part = "RESULTS have A as acked: of the LOG, by a NOTE there, if that is more";
        x = new LogCluster(4, 2, 16, 5);
        x.send(0, WRITE, 0, 1, 0);
        due("a late one, with ACKED 1", x.send(0, REMOVE, 16, 0, 0), 2);
        x.deliver(0);
        due("deliver", x.deliver(0), 4);
        due("RESULT 3 has 2", lose(x, 0, WRITE, 0, 2, 0), 0);
        x.crash(0);
        due("tick(3)", x.tick(3), 1);
        segment(x, 2, 0, 2, 2, 1);
        due("number 2", x.deliver(1), 0);
        due("STATUS", ask(x, 1, 4), 1);
        // the RESULT has 2, too, so that the NOTE is not LIVE any more
        segment(x, 2, 0, 3, 3, 1);
    }

    private static void ackedOfTheirSending() {
        part = "REQUESTS to a SERVER, with the ACKED of their sending, doubled ones too";
        LogCluster x = new LogCluster(4, 2, 16, 5);
        x.send(0, WRITE, 0, 1, 0);
        due("twice", x.twice(0), 1);
        x.deliver(0);
        due("deliver", x.deliver(0), 4);
        due("ACKED of now", x.acked(0), 2);
        due("twice", x.twice(1), 0);
        for (int i = 0; i < 2; i++) {
            due("deliver", x.deliver(i), 0);
            due("not STALE", ask(x, i, 4), 0);
            due("deliver", x.deliver(i), 5);
        }
        due("again", x.again(0, 1), 0);
        due("deliver", x.deliver(0), 0);
        due("STALE", ask(x, 0, 4), 5);
    }

    private static void cutsOfOtherKinds() {
        part = "CUT: the next ENTRY of a REQUEST that it APPENDS";
        LogCluster x = new LogCluster(4, 2, 16, 5);
        lose(x, 0, WRITE, 0, 1, 0);
        due("cut(0, 0)", x.cut(0, 0), true);
        x.again(0, 1);
        due("as the RESULT tells", x.deliver(0), 0);
        due("deliver", x.deliver(0), 4);
        x.again(0, 1);
        due("STALE", x.deliver(0), 0);
        due("STATUS", ask(x, 0, 4), 5);
        x.drop(0);
        due("READ", take(x, 0, READ, 0, 0, 0), 0);
        x.sleep(2);
        due("a READ that opens", take(x, 0, READ, 0, 0, 0), 0);
        x.wake(2);
        due("the CUT stays", x.server(0, 9), 0);
        due("UP", x.server(0, 0), 0);
        int[][] requests = {{REMOVE, 7, 0}, {CHANGE, 0, 9}, {REMOVE, 0, 0}, {CHANGE, 0, 1}, {WRITE, 0, 0}};
        int[] effects = {0, 0, 1, 1, 1};
        for (int i = 0; i < requests.length; i++) {
            x = new LogCluster(4, 2, 16, 5);
            take(x, 0, WRITE, 0, 1, 0);
            x.cut(0, 1);
            x.send(1, requests[i][0], requests[i][1], 5, requests[i][2]);
            due("it goes DOWN with it", x.deliver(0), 3);
            due("ENTRIES APPENDED", x.count(7), 2);
            due("effects", x.count(11), 1 + effects[i]);
            due("tick(3)", x.tick(3), 1);
            due("what was APPENDED is read", x.server(1, 3), 1 + effects[i]);
            x.again(1, 1);
            due("deliver", x.deliver(0), 0);
            due("effects", x.count(11), 1 + effects[i]);
        }
    }

    private static void cutsAreNotForRecoveries() {
        part = "CUT: an ENTRY of a REQUEST, not of a recovery";
        LogCluster x = new LogCluster(4, 2, 16, 5);
        take(x, 0, WRITE, 0, 1, 0);
        lose(x, 0, WRITE, 0, 2, 0);
        due("cut(1, 0)", x.cut(1, 0), true);
        x.crash(0);
        due("tick(3)", x.tick(3), 1);
        due("owner(0)", x.owner(0), 1);
        due("UP", x.server(1, 0), 0);
        due("the CUT stays", x.server(1, 9), 0);
        segment(x, 1, 0, 4, 5, 3);
        x.send(1, WRITE, 0, 3, 0);
        due("it goes DOWN with it", x.deliver(0), 3);
        x.restart(0);
        due("tick(3)", x.tick(3), 1);
        due("what was recovered came to all HOLDERS", x.peek(x.owner(0), 0, 0), 2);
    }

    private static void cutThatOpens() {
        part = "CUT: to the first j of the HEAD's HOLDERS alone, the HEAD being a new one";
        for (int j = 0; j <= 2; j++) {
            LogCluster x = new LogCluster(4, 2, 6, 5);
            take(x, 0, WRITE, 0, 1, 0);
            x.cut(0, j);
            x.send(0, WRITE, 0, 2, 0);
            due("it goes DOWN with it", x.deliver(0), 3);
            due("SEGMENTS opened ever", x.count(2), 2);
            due("copies", x.server(1, 8), 2);
            due("tick(3)", x.tick(3), 1);
            due("peek", x.peek(1, 0, 0), j == 0 ? 1 : 2);
            due("SAFE", x.server(1, 3), j == 0 ? 1 : 2);
        }
    }

    /** R is 3: the HOLDERS are 3, 4 and 5, of which all but the one told are DOWN as the LOG is read. */
    private static void cutToEachHolder() {
        part = "the ENTRIES that the HOLDER that is UP and has most of them has";
        for (int j = 0; j <= 3; j++) {
            for (int first = 3; first <= 5; first++) {
                LogCluster x = new LogCluster(7, 3, 8, 5);
                x.cut(1, j);
                x.send(0, WRITE, 8, 77, 0);
                due("it goes DOWN with it", x.deliver(0), 3);
                for (int i = 3; i < first; i++) {
                    x.crash(i);
                }
                // the first of the HOLDERS that is UP has no less than those behind it
                due("tick(3)", x.tick(3), first - 2);
                due("peek", x.peek(x.owner(1), 8, 0), first - 3 < j ? 77 : -1);
                due("SAFE", x.server(x.owner(1), 3), first - 3 < j ? 1 : 0);
                due("effects", x.count(11), j > 0 ? 1 : 0);
            }
        }
    }

    private static void elsewhere() {
        part = "The TABLET is none of its own: ELSEWHERE";
        LogCluster x = new LogCluster(4, 2, 8, 5);
        x.send(0, WRITE, 0, 1, 0);
        x.send(0, READ, 0, 0, 0);
        x.crash(0);
        due("tick(3)", x.tick(3), 1);
        x.restart(0);
        due("a late WRITE", x.deliver(0), 0);
        due("STATUS", ask(x, 0, 4), 3);
        due("a late READ", x.deliver(1), 0);
        due("STATUS", ask(x, 1, 4), 3);
        due("no HEAD for it", x.server(0, 4), 0);
        due("it did not forget", x.count(8), 0);
        due("deliver", x.deliver(0), 6);
        due("deliver", x.deliver(1), 6);
        due("no answers", x.acked(0), 1);
    }

    private static void statusFirstThenHadOne() {
        part = "An ANSWER of STATUS 3 or 4: the client has no answer by that; else, if it had none";
        LogCluster x = new LogCluster(4, 2, 8, 5);
        x.send(0, READ, 0, 0, 0);
        due("twice", x.twice(0), 1);
        due("twice", x.twice(0), 2);
        x.deliver(0);
        due("deliver", x.deliver(0), 4);
        x.sleep(1);
        x.sleep(2);
        due("BUSY", x.deliver(1), 0);
        due("STATUS", ask(x, 1, 4), 4);
        x.crash(0);
        x.restart(0);
        due("ELSEWHERE", x.deliver(2), 0);
        due("STATUS", ask(x, 2, 4), 3);
        due("deliver", x.deliver(1), 6);
        due("deliver", x.deliver(2), 6);
        answer(x, 0, 1, 1, 0, 0);
        due("MESSAGES", x.count(1), 0);
    }

    private static void fencedAheadOfAll() {
        part = "UP, the first of these: the SERVER is FENCED: it forgets; ELSEWHERE";
        LogCluster x = new LogCluster(4, 2, 8, 5);
        take(x, 0, WRITE, 0, 1, 0);
        x.send(0, READ, 0, 0, 0);
        x.send(0, READ, 0, 0, 0);
        x.sleep(0);
        due("tick(3)", x.tick(3), 1);
        due("ASLEEP", x.deliver(0), 2);
        due("it did not forget", x.count(8), 0);
        x.wake(0);
        due("cut(0, 2)", x.cut(0, 2), true);
        due("FENCED", x.server(0, 1), 1);
        due("deliver", x.deliver(0), 0);
        due("STATUS", ask(x, 0, 4), 3);
        int[] want = {0, 0, 0, 0, 0, 0, 0, 0, 0, -1, 3, -1};
        for (int w = 0; w < want.length; w++) {
            due("server(0, " + w + ")", x.server(0, w), want[w]);
        }
        due("times", x.count(8), 1);
        due("deliver", x.deliver(1), 0);
        due("STATUS", ask(x, 1, 4), 3);
        due("times", x.count(8), 1);
        due("tick(1)", x.tick(1), 0);
        due("not LOST", x.count(6), 1);
        due("times", x.count(8), 1);
    }

    // ---- part 4: a TICK

    private static void headsInATick() {
        part = "A TICK: if one of its HEAD's HOLDERS is not UP, there is no HEAD any more";
        LogCluster x = new LogCluster(5, 2, 16, 5);
        take(x, 0, WRITE, 0, 1, 0);
        x.sleep(1);
        due("not without a TICK", x.server(0, 11), 0);
        x.wake(1);
        due("tick(1)", x.tick(1), 0);
        due("all are UP", x.server(0, 11), 0);
        x.sleep(1);
        due("tick(1)", x.tick(1), 0);
        due("no HEAD", x.server(0, 11), -1);
        x.wake(1);
        due("tick(1)", x.tick(1), 0);
        due("it does not come back", x.server(0, 11), -1);
        due("READ", take(x, 0, READ, 0, 0, 0), 0);
        due("a new one", x.server(0, 11), 1);
    }

    private static void sleepersDoNothing() {
        part = "A TICK: a. each SERVER that is UP";
        LogCluster x = new LogCluster(5, 2, 16, 5);
        take(x, 0, WRITE, 16, 1, 0);
        due("copies", x.server(1, 8), 1);
        x.sleep(2);
        x.sleep(1);
        due("tick(1)", x.tick(1), 0);
        due("MENDINGS", x.count(10), 0);
        due("HEAD", x.server(2, 11), 0);
        x.wake(2);
        due("tick(1)", x.tick(1), 0);
        due("MENDINGS", x.count(10), 1);
        due("HEAD", x.server(2, 11), -1);
    }

    private static void eachMendsOne() {
        part = "MENDING: each SERVER the first of its SEGMENTS";
        LogCluster x = new LogCluster(5, 2, 6, 5);
        take(x, 0, WRITE, 0, 1, 0);
        take(x, 0, WRITE, 8, 1, 0);
        due("copies", x.server(2, 8), 2);
        x.sleep(2);
        due("tick(1)", x.tick(1), 0);
        due("MENDINGS", x.count(10), 2);
        due("the first of the RING that is UP and none of the HOLDERS", x.server(3, 8), 2);
        due("tick(1)", x.tick(1), 0);
        due("MENDINGS", x.count(10), 2);
    }

    private static void mendsWhatCanBe() {
        part = "MENDING: the first .. for which there is a SERVER that is UP and none of the HOLDERS";
        LogCluster x = new LogCluster(5, 3, 6, 5);
        take(x, 0, WRITE, 0, 1, 0);
        take(x, 0, WRITE, 0, 2, 0);
        x.sleep(3);
        x.sleep(4);
        due("tick(1)", x.tick(1), 0);
        due("MENDINGS", x.count(10), 1);
        int[][] holders = {{3, 2}, {4, 2}};
        for (int k = 0; k < 2; k++) {
            due("HOLDERS", x.segment(0, k, 4), holders[k][0]);
            due("UP", x.segment(0, k, 5), holders[k][1]);
        }
        due("tick(1)", x.tick(1), 0);
        due("MENDINGS", x.count(10), 1);
        x.wake(4);
        due("R HOLDERS are UP of the second", x.segment(0, 1, 5), 3);
        due("tick(1)", x.tick(1), 1);
        due("MENDINGS", x.count(10), 2);
        due("HOLDERS", x.segment(0, 0, 4), 4);
        due("HOLDERS", x.segment(0, 1, 4), 4);
    }

    private static void mendsByTheRing() {
        part = "MENDING: the first of its RING that is UP and none of the HOLDERS is a HOLDER too";
        for (int first = 1; first <= 3; first++) {
            LogCluster x = new LogCluster(5, 2, 16, 5);
            x.sleep(first);
            take(x, 0, WRITE, 0, 1, 0);
            x.wake(first);
            // NAME 0: 1, 2, 3, 4; the HOLDERS are the first two but the one that slept
            int gone = first == 1 ? 3 : first == 2 ? 3 : 2;
            x.sleep(gone);
            due("tick(1)", x.tick(1), 0);
            due("MENDINGS", x.count(10), 1);
            due("copies at 1", x.server(1, 8), 1);
            due("copies at 2", x.server(2, 8), 1);
            due("copies at 3", x.server(3, 8), 1);
            due("copies at 4", x.server(4, 8), 0);
        }
        LogCluster x = new LogCluster(5, 2, 16, 5);
        x.sleep(3);
        take(x, 0, WRITE, 8, 1, 0);
        x.wake(3);
        // NAME 0 of SERVER 1: 3, 4, 0, 2; the HOLDERS are 4 and 0
        x.sleep(4);
        due("tick(1)", x.tick(1), 0);
        due("copies at 3", x.server(3, 8), 1);
        due("copies at 2", x.server(2, 8), 0);
    }

    private static void mendedHasAll() {
        part = "MENDING: a HOLDER too, of all ENTRIES";
        LogCluster x = new LogCluster(6, 2, 16, 5);
        take(x, 0, WRITE, 0, 1, 0);
        take(x, 0, WRITE, 0, 2, 0);
        x.crash(1);
        due("tick(1)", x.tick(1), 0);
        x.crash(2);
        due("tick(1)", x.tick(1), 0);
        due("MENDINGS", x.count(10), 2);
        due("copies", x.server(3, 8), 1);
        due("copies", x.server(4, 8), 1);
        x.crash(0);
        due("tick(3)", x.tick(3), 3);
        due("peek", x.peek(x.owner(0), 0, 0), 2);
    }

    private static void missesOfThree() {
        part = "MISSES are 0 if it is UP, else one more; 3 MISSES or more: it is DEAD";
        for (int way = 0; way < 2; way++) {
            LogCluster x = new LogCluster(8, 2, 8, 5);
            due("not UP", way == 0 ? x.crash(5) : x.sleep(5), true);
            for (int i = 1; i <= 2; i++) {
                due("tick(1)", x.tick(1), 0);
                due("MISSES", x.server(5, 10), i);
                due("owner(5)", x.owner(5), 5);
                due("DEAD ones", x.count(6), 0);
            }
            due("tick(1)", x.tick(1), 1);
            due("MISSES", x.server(5, 10), 3);
            due("DEAD ones", x.count(6), 1);
            due("owner(5)", x.owner(5), 0);
            due("tick(4)", x.tick(4), 0);
            due("MISSES", x.server(5, 10), 7);
            due("no OWNER any more: DEAD once", x.count(6), 1);
            due("FENCED if it was not LOST", x.server(5, 1), way);
        }
    }

    private static void missesAreTheCoordinators() {
        part = "MISSES: if the COORDINATOR is not away";
        LogCluster x = new LogCluster(4, 2, 8, 5);
        x.crash(3);
        due("tick(2)", x.tick(2), 0);
        x.restart(3);
        x.crash(3);
        due("no TICK saw it UP", x.server(3, 10), 2);
        x.coordinator(true);
        due("tick(100)", x.tick(100), 0);
        due("MISSES", x.server(3, 10), 2);
        due("UP and LOST", x.restart(3), true);
        due("tick(1)", x.tick(1), 0);
        due("MISSES", x.server(3, 10), 2);
        due("DEAD ones", x.count(6), 0);
        x.coordinator(false);
        due("tick(1)", x.tick(1), 1);
        due("MISSES", x.server(3, 10), 0);
    }

    private static void deadInTheOrderOfDying() {
        part = "each DEAD LOG, in the order in which they died";
        LogCluster x = new LogCluster(4, 2, 8, 5);
        x.crash(3);
        due("tick(1)", x.tick(1), 0);
        x.crash(2);
        due("tick(3)", x.tick(3), 0);
        due("DEAD LOGS", x.count(4), 2);
        owners(x, 0, 1, -1, -1, 0, 1, -1, -1);
        x.restart(2);
        due("tick(1)", x.tick(1), 2);
        owners(x, 0, 1, 0, 2, 0, 1, 1, 2);
        part = "each SERVER by number: it is DEAD";
        x = new LogCluster(4, 2, 8, 5);
        x.crash(3);
        x.crash(2);
        due("tick(3)", x.tick(3), 0);
        x.restart(2);
        due("tick(1)", x.tick(1), 2);
        owners(x, 0, 1, 2, 0, 0, 1, 2, 1);
    }

    private static void recoveredByEnough() {
        part = "RECOVERED, if R + 1 SERVERS are UP";
        for (int s = 4; s <= 8; s++) {
            for (int r = 2; r <= 3; r++) {
                for (int down = 1; down < s; down++) {
                    LogCluster x = new LogCluster(s, r, 8, 5);
                    for (int i = 0; i < down; i++) {
                        x.crash(i);
                    }
                    boolean enough = s - down >= r + 1;
                    due("tick(3)", x.tick(3), enough ? down : 0);
                    due("DEAD LOGS", x.count(4), enough ? 0 : down);
                    due("DEAD ones", x.count(6), down);
                }
            }
        }
    }

    private static void eightDeadLogs() {
        part = "not if there are 16 DEAD LOGS: with 8 TABLETS there are 8 at most";
        LogCluster x = new LogCluster(8, 2, 8, 5);
        for (int i = 0; i < 8; i++) {
            x.sleep(i);
        }
        due("tick(100)", x.tick(100), 0);
        due("DEAD LOGS", x.count(4), 8);
        due("TABLETS without OWNER", x.count(5), 8);
        due("DEAD ones", x.count(6), 8);
        for (int i = 0; i < 8; i++) {
            due("send", x.send(0, READ, 8 * i, 0, 0), -2);
            x.wake(i);
        }
        due("all forget, and take them over", x.tick(1), 8);
        due("times", x.count(8), 8);
        owners(x, 0, 1, 2, 3, 4, 5, 6, 7);
    }

    private static void ownersOfTheFewest() {
        part = "the new OWNER is the SERVER that is UP and OWNER of the fewest by the MAP, of several the first";
        LogCluster x = new LogCluster(8, 2, 8, 5);
        x.crash(7);
        due("tick(3)", x.tick(3), 1);
        owners(x, 0, 1, 2, 3, 4, 5, 6, 0);
        x.crash(0);
        x.sleep(1);
        due("tick(2)", x.tick(2), 0);
        due("tick(1)", x.tick(1), 2);
        owners(x, 2, 4, 2, 3, 4, 5, 6, 3);
        due("own TABLETS", x.server(2, 2), 2);
        due("own TABLETS", x.server(3, 2), 2);
        due("own TABLETS", x.server(4, 2), 2);
        due("own TABLETS", x.server(5, 2), 1);
    }

    private static void safeOfANewOwner() {
        part = "If the greatest version and SAFE told in the DEAD LOG is above its SAFE";
        for (int writes = 1; writes <= 3; writes++) {
            LogCluster x = new LogCluster(4, 2, 16, 5);
            for (int i = 0; i < writes; i++) {
                lose(x, 0, WRITE, 0, i, 0);
            }
            // the HOLDERS of this HEAD, of NAME 1, are 2 and 3
            take(x, 1, WRITE, 8, 0, 0);
            take(x, 1, WRITE, 8, 0, 0);
            x.crash(0);
            due("tick(3)", x.tick(3), 1);
            due("owner(0)", x.owner(0), 1);
            due("SAFE", x.server(1, 3), Math.max(2, writes));
            due("a new HEAD if it is above, not if it is like", x.server(1, 4), writes > 2 ? 2 : 1);
            due("HEAD", x.server(1, 11), writes > 2 ? 2 : 1);
            take(x, 2, WRITE, 1, 5, 0);
            due("the next version", x.peek(1, 1, 1), Math.max(2, writes) + 1);
        }
    }

    private static void safeByADigest() {
        part = "the greatest version and SAFE told in the DEAD LOG: by a DIGEST alone";
        LogCluster x = new LogCluster(4, 2, 6, 5);
        lose(x, 0, WRITE, 3, 30, 0);
        x.crash(0);
        due("tick(3)", x.tick(3), 1);
        segment(x, 2, 0, 1, 1, 0);
        x.restart(0);
        x.crash(2);
        due("tick(3)", x.tick(3), 1);
        owners(x, 1, 1, 0, 3, 0, 1, 0, 3);
        due("SAFE", x.server(0, 3), 1);
        segment(x, 0, 0, 1, 1, 0);
        due("WRITE", take(x, 1, WRITE, 32, 7, 0), 0);
        answer(x, 1, 1, 0, 7, 2);
    }

    private static void deadLogsReadApart() {
        part = "the greatest version and SAFE, and ACKED, told in the DEAD LOG, not in one ahead of it";
        LogCluster x = new LogCluster(8, 2, 16, 5);
        take(x, 0, WRITE, 0, 1, 0);
        take(x, 0, WRITE, 0, 2, 0);
        lose(x, 0, WRITE, 0, 3, 0);
        lose(x, 1, WRITE, 8, 4, 0);
        x.crash(0);
        x.crash(1);
        due("tick(3)", x.tick(3), 2);
        owners(x, 2, 3, 2, 3, 4, 5, 6, 7);
        due("SAFE", x.server(2, 3), 3);
        // DIGEST, NOTE, OBJECT, RESULT
        segment(x, 2, 0, 4, 5, 3);
        due("SAFE", x.server(3, 3), 1);
        // DIGEST, OBJECT, RESULT
        segment(x, 3, 0, 3, 4, 3);
    }

    private static void deadLogOfThePast() {
        part = "the OBJECTS of this TABLET in the DEAD LOG, not in one ahead of it";
        LogCluster x = new LogCluster(4, 2, 6, 5);
        take(x, 0, WRITE, 0, 1, 0);
        x.crash(0);
        x.restart(0);
        due("tick(1)", x.tick(1), 1);
        due("peek", x.peek(0, 0, 0), 1);
        // a RESULT alone, so that the TOMB does not fit beside its OBJECT
        take(x, 0, REMOVE, 7, 0, 0);
        take(x, 0, REMOVE, 0, 0, 0);
        // the SEGMENTS of the OBJECT and of its TOMB come to be without LIVE UNITS, and go
        for (int i = 0; i < 9; i++) {
            take(x, 0, WRITE, 1, i, 0);
        }
        due("CLEANINGS", x.count(3) >= 2, true);
        due("the TOMB is no more: OBJECT and RESULT alone are LIVE", x.server(0, 5), 3);
        x.crash(0);
        x.restart(0);
        due("tick(1)", x.tick(1), 1);
        due("the removed one", x.peek(0, 0, 0), -1);
        due("the other one", x.peek(0, 1, 0), 8);
    }

    private static void notesIfAbove() {
        part = "for each client whose ACKED in the DEAD LOG is above that in its LOG a NOTE";
        LogCluster x = new LogCluster(4, 2, 16, 5);
        take(x, 0, READ, 24, 0, 0);
        lose(x, 0, WRITE, 8, 5, 0);
        lose(x, 0, WRITE, 0, 6, 0);
        x.crash(1);
        due("tick(3)", x.tick(3), 1);
        owners(x, 0, 0, 2, 3, 0, 2, 2, 3);
        due("no NOTE for ACKED 2 and 2", x.segment(0, 0, 1), 4);
        segment(x, 0, 0, 4, 7, 6);
        segment(x, 2, 0, 2, 2, 1);
        due("ENTRIES APPENDED", x.count(7), 5);
        x = new LogCluster(4, 2, 16, 5);
        take(x, 0, READ, 24, 0, 0);
        take(x, 0, WRITE, 8, 5, 0);
        lose(x, 0, WRITE, 0, 6, 0);
        x.crash(1);
        due("tick(3)", x.tick(3), 1);
        due("no NOTE for ACKED 2 and 3", x.segment(0, 0, 1), 4);
        segment(x, 0, 0, 4, 7, 5);
        x = new LogCluster(4, 2, 16, 5);
        take(x, 0, READ, 0, 0, 0);
        lose(x, 0, WRITE, 0, 5, 0);
        x.crash(0);
        x.restart(0);
        due("tick(1)", x.tick(1), 1);
        due("own TABLETS", x.server(0, 2), 2);
        due("one NOTE for two TABLETS", x.segment(0, 0, 1), 4);
        due("ENTRIES APPENDED", x.count(7), 4);
    }

    private static void notesOfAllClients() {
        part = "for each client by number a NOTE";
        LogCluster x = new LogCluster(4, 2, 16, 5);
        for (int c = 0; c < 6; c++) {
            take(x, c, READ, 0, 0, 0);
            take(x, c, REMOVE, 0, 0, 0);
        }
        x.crash(0);
        due("tick(3)", x.tick(3), 1);
        due("SAFE", x.server(1, 3), 0);
        segment(x, 1, 0, 13, 13, 6);
        segment(x, 2, 0, 7, 7, 6);
        for (int c = 0; c < 6; c++) {
            x.again(c, 2);
            due("deliver", x.deliver(0), 0);
            due("STALE", ask(x, 0, 4), 5);
            x.drop(0);
        }
    }

    private static void resultsFromAckedOn() {
        part = "the RESULTS of KEYS of this TABLET whose number is ACKED of the client or more";
        LogCluster x = new LogCluster(4, 2, 16, 5);
        take(x, 0, WRITE, 0, 1, 0);
        lose(x, 0, WRITE, 1, 2, 0);
        lose(x, 0, WRITE, 32, 3, 0);
        x.crash(0);
        due("tick(3)", x.tick(3), 1);
        owners(x, 1, 1, 2, 3, 2, 1, 2, 3);
        // DIGEST, NOTE, two OBJECTS, RESULT 2
        segment(x, 1, 0, 5, 7, 5);
        // DIGEST, NOTE, OBJECT, RESULT 3
        segment(x, 2, 0, 4, 5, 3);
        for (int n = 2; n <= 3; n++) {
            x.again(0, n);
            due("deliver", x.deliver(0), 0);
            due("as the RESULT tells", x.deliver(0), 4);
        }
        answer(x, 0, 2, 0, 2, 2);
        answer(x, 0, 3, 0, 3, 3);
        due("effects", x.count(11), 3);
    }

    private static void resultOfTheLastNumber() {
        part = "the RESULTS .. by clients, then numbers: client 5, number 40";
        LogCluster x = new LogCluster(4, 2, 16, 5);
        for (int i = 0; i < 39; i++) {
            take(x, 5, READ, 0, 0, 0);
        }
        lose(x, 5, WRITE, 7, 70, 0);
        due("LIVE UNITS", x.server(0, 5), 3);
        x.crash(0);
        due("tick(3)", x.tick(3), 1);
        // DIGEST, NOTE, OBJECT, RESULT
        segment(x, 1, 0, 4, 5, 3);
        x.again(5, 40);
        due("deliver", x.deliver(0), 0);
        due("deliver", x.deliver(0), 4);
        answer(x, 5, 40, 0, 70, 1);
        due("effects", x.count(11), 1);
        due("ACKED", x.acked(5), 41);
    }

    private static void resultsByNumbers() {
        part = "the RESULTS .. by clients, then numbers";
        LogCluster x = new LogCluster(4, 2, 6, 5);
        for (int i = 0; i < 6; i++) {
            x.send(0, REMOVE, 7, 0, 0);
        }
        for (int i = 0; i < 6; i++) {
            due("number 6 goes first", x.deliver((i + 5) % 6), 0);
        }
        x.drop(5);
        x.crash(0);
        x.restart(0);
        due("tick(1)", x.tick(1), 1);
        segment(x, 0, 0, 6, 6, 5);
        segment(x, 0, 1, 2, 2, 1);
        for (int i = 0; i < 5; i++) {
            due("answers of 1 to 5", x.deliver(i), 4);
        }
        lose(x, 0, REMOVE, 7, 0, 0);
        segment(x, 0, 0, 6, 6, 0);
        segment(x, 0, 1, 3, 3, 2);
        x = new LogCluster(4, 2, 6, 5);
        lose(x, 1, REMOVE, 7, 0, 0);
        for (int i = 0; i < 5; i++) {
            lose(x, 0, REMOVE, 7, 0, 0);
        }
        x.crash(0);
        x.restart(0);
        due("tick(1)", x.tick(1), 1);
        segment(x, 0, 0, 6, 6, 5);
        segment(x, 0, 1, 2, 2, 1);
        x.again(1, 1);
        x.deliver(0);
        due("the answer of client 1", x.deliver(0), 4);
        lose(x, 1, REMOVE, 7, 0, 0);
        segment(x, 0, 0, 6, 6, 5);
        segment(x, 0, 1, 3, 3, 1);
    }

    private static void objectsByKeys() {
        part = "a NOTE; the OBJECTS .. by KEYS; the RESULTS";
        LogCluster x = new LogCluster(4, 2, 6, 5);
        take(x, 0, WRITE, 2, 20, 0);
        take(x, 0, WRITE, 0, 21, 0);
        take(x, 0, WRITE, 1, 22, 0);
        x.crash(0);
        x.restart(0);
        due("tick(1)", x.tick(1), 1);
        segment(x, 0, 0, 4, 6, 4);
        segment(x, 0, 1, 3, 4, 3);
        lose(x, 1, WRITE, 2, 23, 0);
        segment(x, 0, 0, 4, 6, 4);
        segment(x, 0, 1, 3, 4, 1);
        lose(x, 2, WRITE, 1, 24, 0);
        segment(x, 0, 0, 4, 6, 2);
    }

    private static void objectsOfTheGreatestVersion() {
        part = "the OBJECTS of this TABLET that have the greatest version of their KEY (of OBJECTS and TOMBS)";
        LogCluster x = new LogCluster(4, 2, 16, 5);
        take(x, 0, WRITE, 0, 1, 0);
        take(x, 0, WRITE, 0, 2, 0);
        take(x, 0, WRITE, 7, 3, 0);
        take(x, 0, REMOVE, 7, 0, 0);
        take(x, 0, WRITE, 39, 4, 0);
        x.crash(0);
        due("tick(3)", x.tick(3), 1);
        // DIGEST, NOTE, one OBJECT; the RESULT of ACKED is of a KEY of TABLET 4
        segment(x, 1, 0, 3, 4, 3);
        due("peek", x.peek(1, 0, 0), 2);
        due("peek", x.peek(1, 0, 1), 2);
        due("peek", x.peek(1, 7, 0), -1);
        segment(x, 2, 0, 4, 5, 3);
        due("peek", x.peek(2, 39, 0), 4);
        due("SAFE", x.server(1, 3), 5);
        due("SAFE", x.server(2, 3), 5);
    }

    private static void deadLogEnds() {
        part = "Behind its last TABLET the DEAD LOG's SEGMENTS are no more";
        LogCluster x = new LogCluster(4, 2, 16, 5);
        take(x, 0, REMOVE, 0, 0, 0);
        due("copies", x.server(1, 8), 1);
        due("copies", x.server(2, 8), 1);
        x.sleep(0);
        x.sleep(3);
        due("too few are UP", x.tick(3), 0);
        due("a DEAD LOG's copies", x.server(1, 8), 1);
        due("a DEAD LOG's copies", x.server(2, 8), 1);
        due("its SERVER has an empty LOG", x.server(0, 4), 0);
        x.wake(3);
        due("tick(1)", x.tick(1), 2);
        due("DEAD LOGS", x.count(4), 0);
        owners(x, 3, 1, 2, 1, 3, 1, 2, 2);
        due("copies", x.server(0, 8), 0);
        due("copies", x.server(1, 8), 1);
        due("copies", x.server(2, 8), 1);
        due("a RESULT in a new LOG", x.server(3, 5), 1);
    }

    public static void main(String[] args) {
        atFirst();
        tabletOfAKey();
        tabletsAreOwnedApart();
        goingDownEndsFenced();
        copiesStayOnDisks();
        lostWhileOwner();
        lostTwice();
        segmentToTheLastUnit();
        entriesThatFillASegment();
        namesOfAllSegments();
        digestsAreNeverLive();
        liveObjects();
        liveTombs();
        liveResults();
        liveNotes();
        versionsNotPlaces();
        ackedFirstInASegment();
        ringOfThree();
        openingNeedsOthers();
        refusedOpeningLeavesTheHead();
        refusedBehindCleaning();
        cleaningFromMLessOne();
        cleaningLeavesTheLatest();
        cleaningByLiveUnits();
        holdersOfThePacked();
        cleaningOfOneMore();
        cleaningOfThree();
        cleaningWithoutPacking();
        liveAheadOfCleaning();
        cleaningOfFullSegments();
        opensBeyondMemory();
        latestIsNotTheGreatestName();
        holderThatIsNotUp();
        refusedIsNothing();
        numbersToForty();
        fullNetAnswers();
        changes();
        valuesOfAnySize();
        readsAreNeverStale();
        readNeedsNoRoom();
        staleByTheLog();
        resultsHaveA();
        ackedOfTheirSending();
        cutsOfOtherKinds();
        cutsAreNotForRecoveries();
        cutThatOpens();
        cutToEachHolder();
        elsewhere();
        statusFirstThenHadOne();
        fencedAheadOfAll();
        headsInATick();
        sleepersDoNothing();
        eachMendsOne();
        mendsWhatCanBe();
        mendsByTheRing();
        mendedHasAll();
        missesOfThree();
        missesAreTheCoordinators();
        deadInTheOrderOfDying();
        recoveredByEnough();
        eightDeadLogs();
        ownersOfTheFewest();
        safeOfANewOwner();
        safeByADigest();
        deadLogsReadApart();
        deadLogOfThePast();
        notesIfAbove();
        notesOfAllClients();
        resultsFromAckedOn();
        resultOfTheLastNumber();
        resultsByNumbers();
        objectsByKeys();
        objectsOfTheGreatestVersion();
        deadLogEnds();
        end();
    }
}
