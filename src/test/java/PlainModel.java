import java.util.ArrayList;
import java.util.Collections;
import java.util.Comparator;
import java.util.HashMap;
import java.util.LinkedHashMap;
import java.util.List;
import java.util.Map;
import java.util.NoSuchElementException;
import java.util.Set;
import java.util.TreeMap;
import java.util.TreeSet;

/** The document's words once more, as plainly as they can be put: slow, and made apart from LogCluster. */
final class PlainModel {
    enum Kind { DIGEST, NOTE, OBJECT, TOMB, RESULT }
    enum State { UP, ASLEEP, DOWN }

    record P(Kind kind, int client, int number, int key, int status, int value, int version, int acked, int safe, int where) {
        int units() { return kind == Kind.OBJECT ? 2 : 1; }
        static P digest(int safe) { return new P(Kind.DIGEST, -1, -1, -1, 0, 0, 0, 0, safe, -1); }
        static P note(int c, int acked) { return new P(Kind.NOTE, c, -1, -1, 0, 0, 0, acked, 0, -1); }
        static P object(int k, int v, int ver) { return new P(Kind.OBJECT, -1, -1, k, 0, v, ver, 0, 0, -1); }
        static P tomb(int k, int ver, int where) { return new P(Kind.TOMB, -1, -1, k, 0, 0, ver, 0, 0, where); }
        static P result(int c, int n, int k, int st, int v, int ver, int acked) {
            return new P(Kind.RESULT, c, n, k, st, v, ver, acked, 0, -1);
        }
    }

    static final class Entry {
        final List<P> parts = new ArrayList<>();
        Entry(P... ps) { for (P p : ps) parts.add(p); }
        int units() { int u = 0; for (P p : parts) u += p.units(); return u; }
    }

    static final class Seg {
        int name;
        List<Entry> entries = new ArrayList<>();
        LinkedHashMap<Integer, List<Entry>> copies = new LinkedHashMap<>();
        int units() { int u = 0; for (Entry e : entries) u += e.units(); return u; }
    }

    static final class Lg {
        TreeMap<Integer, Seg> segs = new TreeMap<>();
        Integer head = null;
        int latest = -1;
    }

    static final class Dead {
        Lg log;
        TreeSet<Integer> tablets = new TreeSet<>();
    }

    static final class Msg {
        boolean answer;
        int client, number, kind, key, a, b, acked, server, status, value, version;
        Msg copy() {
            Msg m = new Msg();
            m.answer = answer; m.client = client; m.number = number; m.kind = kind; m.key = key; m.a = a; m.b = b;
            m.acked = acked; m.server = server; m.status = status; m.value = value; m.version = version;
            return m;
        }
    }

    final int S, R, Z, M;
    final State[] state;
    final boolean[] fenced;
    final List<Set<Integer>> own = new ArrayList<>();
    final Lg[] log;
    final int[] safe, cut, misses;
    /** The TABLETS of which a SERVER was OWNER as it went DOWN, and its LOG then. */
    final List<Set<Integer>> wentWith = new ArrayList<>();
    final Lg[] wentLog;
    final int[] map = new int[8];
    final List<Dead> dead = new ArrayList<>();
    final Msg[] net = new Msg[40];
    final List<List<int[]>> asked = new ArrayList<>();
    final List<Map<Integer, int[]>> answers = new ArrayList<>();
    boolean away;
    int clock, names, cleanings, deaths, appended, forgot, mendings, effects;

    PlainModel(int s, int r, int z, int m) {
        S = clamp(s, 4, 8); R = clamp(r, 2, 3); Z = clamp(z, 6, 16); M = clamp(m, 5, 16);
        state = new State[S]; fenced = new boolean[S]; log = new Lg[S]; wentLog = new Lg[S];
        safe = new int[S]; cut = new int[S]; misses = new int[S];
        for (int i = 0; i < S; i++) {
            state[i] = State.UP; log[i] = new Lg(); cut[i] = -1;
            own.add(new TreeSet<>()); wentWith.add(new TreeSet<>());
        }
        for (int t = 0; t < 8; t++) { map[t] = t % S; own.get(t % S).add(t); }
        for (int c = 0; c < 6; c++) { asked.add(new ArrayList<>()); answers.add(new HashMap<>()); }
    }

    static int clamp(int v, int lo, int hi) { return v < lo ? lo : v > hi ? hi : v; }

    // ---- terms, part 1
    Set<Integer> owned(int m) {
        Set<Integer> ts = new TreeSet<>();
        for (int t = 0; t < 8; t++) if (map[t] == m) ts.add(t);
        return ts;
    }

    boolean lost(int m) {
        for (int t : wentWith.get(m)) if (map[t] == m) return true;
        return false;
    }

    void goDown(int m) {
        if (!lost(m)) { wentWith.set(m, owned(m)); wentLog[m] = log[m]; }
        loseMemory(m);
        state[m] = State.DOWN;
    }

    void loseMemory(int m) {
        own.get(m).clear(); log[m] = new Lg(); safe[m] = 0; fenced[m] = false; cut[m] = -1;
    }

    void forget(int m) { loseMemory(m); forgot++; }

    static List<P> partsOf(Lg g) {
        List<P> ps = new ArrayList<>();
        for (Seg s : g.segs.values()) for (Entry e : s.entries) ps.addAll(e.parts);
        return ps;
    }

    static int acked(List<P> ps, int client) {
        int a = 1;
        for (P p : ps) if ((p.kind == Kind.RESULT || p.kind == Kind.NOTE) && p.client == client) a = Math.max(a, p.acked);
        return a;
    }

    static int greatest(List<P> ps, int key) {
        int v = 0;
        for (P p : ps) if ((p.kind == Kind.OBJECT || p.kind == Kind.TOMB) && p.key == key) v = Math.max(v, p.version);
        return v;
    }

    /** at: which of all the PARTS of the LOG in their order. */
    static boolean live(Lg g, List<P> all, int at) {
        P p = all.get(at);
        switch (p.kind) {
            case OBJECT: return p.version == greatest(all, p.key);
            case TOMB: return g.segs.containsKey(p.where);
            case RESULT: return p.number >= acked(all, p.client);
            case NOTE:
                if (p.acked != acked(all, p.client)) return false;
                for (int i = 0; i < all.size(); i++) {
                    P q = all.get(i);
                    boolean counts = q.kind == Kind.RESULT || q.kind == Kind.NOTE && i < at;
                    if (counts && q.client == p.client && q.acked == p.acked) return false;
                }
                return true;
            default: return false;
        }
    }

    static Map<Integer, List<P>> liveParts(Lg g) {
        Map<Integer, List<P>> m = new TreeMap<>();
        List<P> all = partsOf(g);
        int at = 0;
        for (Seg s : g.segs.values()) {
            List<P> ps = new ArrayList<>();
            for (Entry e : s.entries) for (P p : e.parts) { if (live(g, all, at)) ps.add(p); at++; }
            m.put(s.name, ps);
        }
        return m;
    }

    static int units(List<P> ps) { int u = 0; for (P p : ps) u += p.units(); return u; }

    /** The LIVE OBJECT of a KEY as {NAME, value, version}, or null. */
    static int[] object(Lg g, int key) {
        for (Map.Entry<Integer, List<P>> e : liveParts(g).entrySet())
            for (P p : e.getValue()) if (p.kind == Kind.OBJECT && p.key == key) return new int[] {e.getKey(), p.value, p.version};
        return null;
    }

    // ---- terms, part 2
    List<Integer> ring(int n, int m) {
        List<Integer> r = new ArrayList<>();
        int from = (7 * n + 3 * m) % S;
        for (int i = from; i < S; i++) if (i != m) r.add(i);
        for (int i = 0; i < from; i++) if (i != m) r.add(i);
        return r;
    }

    boolean up(int i) { return state[i] == State.UP; }

    int ups() { int u = 0; for (int i = 0; i < S; i++) if (up(i)) u++; return u; }

    Seg fresh(int m) {
        Seg s = new Seg();
        s.name = names++;
        for (int h : ring(s.name, m)) if (up(h) && s.copies.size() < R) s.copies.put(h, new ArrayList<>());
        return s;
    }

    static void lay(Seg s, Entry e) {
        s.entries.add(e);
        for (List<Entry> c : s.copies.values()) c.add(e);
    }

    boolean opening(int m, boolean recovery) {
        if (away || ups() - (up(m) ? 1 : 0) < R) return false;
        Lg g = log[m];
        g.head = null;
        if (g.segs.size() >= M - 1) cleaning(m);
        if (!recovery && g.segs.size() >= M) return false;
        Seg s = fresh(m);
        lay(s, new Entry(P.digest(safe[m])));
        g.segs.put(s.name, s);
        g.head = s.name;
        g.latest = s.name;
        return true;
    }

    void cleaning(int m) {
        Lg g = log[m];
        Map<Integer, List<P>> live = liveParts(g);
        List<Seg> order = new ArrayList<>();
        for (Seg s : g.segs.values()) if (s.name != g.latest) order.add(s);
        order.sort(Comparator.<Seg>comparingInt(s -> units(live.get(s.name))).thenComparingInt(s -> s.name));
        List<Seg> rest = new ArrayList<>();
        boolean did = false;
        for (Seg s : order) {
            if (live.get(s.name).isEmpty()) { g.segs.remove(s.name); did = true; } else rest.add(s);
        }
        int many = 0;
        int sum = 0;
        for (Seg s : rest) { sum += units(live.get(s.name)); if (sum > Z) break; many++; }
        if (many >= 2) {
            Seg n = fresh(m);
            for (Seg s : rest.subList(0, many)) {
                for (P p : live.get(s.name)) lay(n, new Entry(p));
                g.segs.remove(s.name);
            }
            g.segs.put(n.name, n);
            did = true;
        }
        if (did) cleanings++;
    }

    boolean headGood(int m) {
        if (log[m].head == null) return false;
        for (int h : log[m].segs.get(log[m].head).copies.keySet()) if (!up(h)) return false;
        return true;
    }

    boolean room(int m, int units, boolean recovery) {
        if (!headGood(m) || log[m].segs.get(log[m].head).units() + units > Z) return opening(m, recovery);
        return true;
    }

    // ---- terms, part 3
    int ackedOfClient(int c) {
        int n = 1;
        while (n <= asked.get(c).size() && answers.get(c).containsKey(n)) n++;
        return n;
    }

    static int[] answer(int status, int value, int version) { return new int[] {status, value, version}; }

    /** Null: the SERVER went DOWN. */
    int[] serve(Msg q) {
        int m = q.server;
        if (fenced[m]) { forget(m); return answer(3, 0, 0); }
        if (!own.get(m).contains(q.key / 8)) return answer(3, 0, 0);
        if (q.kind == 0) {
            if (!headGood(m) && !opening(m, false)) return answer(4, 0, 0);
            int[] o = object(log[m], q.key);
            return o == null ? answer(1, 0, 0) : answer(0, o[1], o[2]);
        }
        int a = Math.max(acked(partsOf(log[m]), q.client), q.acked);
        if (q.number < a) return answer(5, 0, 0);
        for (P p : partsOf(log[m])) {
            if (p.kind == Kind.RESULT && p.client == q.client && p.number == q.number) return answer(p.status, p.value, p.version);
        }
        int[] o = object(log[m], q.key);
        int version = safe[m] + 1;
        int[] told;
        boolean tomb = false, object = false;
        if (q.kind == 2 && (o == null ? 0 : o[2]) != q.b) told = answer(2, o == null ? 0 : o[1], o == null ? 0 : o[2]);
        else if (q.kind == 3 && o == null) told = answer(1, 0, 0);
        else if (q.kind == 3) { told = answer(0, 0, version); tomb = true; }
        else { told = answer(0, q.a, version); object = true; }
        if (!room(m, tomb ? 2 : object ? 3 : 1, false)) return answer(4, 0, 0);
        P result = P.result(q.client, q.number, q.key, told[0], told[1], told[2], a);
        Entry e = tomb ? new Entry(P.tomb(q.key, version, object(log[m], q.key)[0]), result)
                : object ? new Entry(P.object(q.key, q.a, version), result) : new Entry(result);
        Seg head = log[m].segs.get(log[m].head);
        appended++;
        if (cut[m] == -1) {
            lay(head, e);
            if (tomb || object) { safe[m]++; effects++; }
            return told;
        }
        int j = 0;
        for (List<Entry> copy : head.copies.values()) if (j++ < cut[m]) copy.add(e);
        if ((tomb || object) && cut[m] > 0) effects++;
        goDown(m);
        return null;
    }

    // ---- terms, part 4
    int oneTick() {
        clock++;
        for (int m = 0; m < S; m++) {
            if (!up(m)) continue;
            if (fenced[m]) { forget(m); continue; }
            if (!headGood(m)) log[m].head = null;
            mend(m);
        }
        if (away) return 0;
        for (int m = 0; m < S; m++) {
            misses[m] = up(m) ? 0 : misses[m] + 1;
            if (!owned(m).isEmpty() && (misses[m] >= 3 || up(m) && lost(m)) && dead.size() < 16) die(m);
        }
        int n = 0;
        for (Dead d : new ArrayList<>(dead)) if (recover(d)) { dead.remove(d); n++; }
        return n;
    }

    void mend(int m) {
        for (Seg s : log[m].segs.values()) {
            int u = 0;
            for (int h : s.copies.keySet()) if (up(h)) u++;
            if (u >= R) continue;
            for (int h : ring(s.name, m)) {
                if (up(h) && !s.copies.containsKey(h)) { s.copies.put(h, new ArrayList<>(s.entries)); mendings++; return; }
            }
        }
    }

    void die(int m) {
        boolean wasLost = lost(m);
        Dead d = new Dead();
        d.tablets.addAll(owned(m));
        d.log = wasLost ? wentLog[m] : log[m];
        for (int t : d.tablets) map[t] = -1;
        dead.add(d);
        deaths++;
        if (wasLost) { wentWith.get(m).clear(); wentLog[m] = null; } else { fenced[m] = true; log[m] = new Lg(); }
    }

    boolean recover(Dead d) {
        if (ups() < R + 1) return false;
        List<P> read = new ArrayList<>();
        for (Seg s : d.log.segs.values()) {
            List<Entry> best = null;
            for (Map.Entry<Integer, List<Entry>> c : s.copies.entrySet())
                if (up(c.getKey()) && (best == null || c.getValue().size() > best.size())) best = c.getValue();
            if (best == null) return false;
            for (Entry e : best) read.addAll(e.parts);
        }
        int told = 0;
        for (P p : read) told = Math.max(told, p.kind == Kind.DIGEST ? p.safe : p.kind == Kind.NOTE ? 0 : p.version);
        while (!d.tablets.isEmpty()) {
            int t = d.tablets.first();
            int heir = -1;
            for (int m = 0; m < S; m++) {
                if (up(m) && !fenced[m] && !lost(m) && (heir < 0 || owned(m).size() < owned(heir).size())) heir = m;
            }
            if (heir < 0) return false;
            d.tablets.remove(t);
            map[t] = heir;
            own.get(heir).add(t);
            if (told > safe[heir]) { safe[heir] = told; opening(heir, true); }
            for (int c = 0; c < 6; c++) {
                if (acked(read, c) > acked(partsOf(log[heir]), c)) put(heir, P.note(c, acked(read, c)));
            }
            for (int k = t * 8; k < t * 8 + 8; k++) {
                for (P p : read) if (p.kind == Kind.OBJECT && p.key == k && p.version == greatest(read, k)) put(heir, p);
            }
            List<P> results = new ArrayList<>();
            for (P p : read) if (p.kind == Kind.RESULT && p.key / 8 == t && p.number >= acked(read, p.client)) results.add(p);
            Collections.sort(results, Comparator.<P>comparingInt(P::client).thenComparingInt(P::number));
            for (P p : results) put(heir, p);
        }
        return true;
    }

    void put(int m, P p) {
        if (!room(m, p.units(), true)) throw new IllegalStateException("refused in a recovery");
        lay(log[m].segs.get(log[m].head), new Entry(p));
        appended++;
    }

    // ---- the face
    int free() { for (int i = 0; i < 40; i++) if (net[i] == null) return i; return -1; }

    Msg at(int place) { return place < 0 || place > 39 ? null : net[place]; }

    int post(int c, int n, int[] r) {
        if (map[r[1] / 8] < 0) return -2;
        int place = free();
        if (place < 0) return -3;
        Msg q = new Msg();
        q.client = c; q.number = n; q.kind = r[0]; q.key = r[1]; q.a = r[2]; q.b = r[3];
        q.acked = ackedOfClient(c); q.server = map[r[1] / 8];
        net[place] = q;
        return place;
    }

    int send(int client, int kind, int key, int a, int b) {
        if (client < 0 || client > 5 || kind < 0 || kind > 3 || key < 0 || key > 63 || asked.get(client).size() >= 40) return -1;
        int[] r = {kind, key, a, b};
        int n = asked.get(client).size() + 1;
        int place = post(client, n, r);
        if (place < 0) return place;
        asked.get(client).add(r);
        return n;
    }

    int again(int client, int number) {
        if (client < 0 || client > 5 || number < 1 || number > asked.get(client).size()) return -1;
        return post(client, number, asked.get(client).get(number - 1));
    }

    int deliver(int place) {
        Msg q = at(place);
        if (q == null) return -1;
        if (q.answer) {
            net[place] = null;
            if (q.status == 3 || q.status == 4) return 6;
            return answers.get(q.client).putIfAbsent(q.number, answer(q.status, q.value, q.version)) == null ? 4 : 5;
        }
        if (state[q.server] == State.DOWN) { net[place] = null; return 1; }
        if (state[q.server] == State.ASLEEP) return 2;
        int[] told = serve(q);
        net[place] = null;
        if (told == null) return 3;
        Msg w = q.copy();
        w.answer = true; w.server = -1; w.status = told[0]; w.value = told[1]; w.version = told[2];
        net[place] = w;
        return 0;
    }

    boolean drop(int place) {
        if (at(place) == null) return false;
        net[place] = null;
        return true;
    }

    int twice(int place) {
        if (at(place) == null) return -1;
        int other = free();
        if (other < 0) return -3;
        net[other] = net[place].copy();
        return other;
    }

    int message(int place, int what) {
        Msg q = at(place);
        if (q == null || what < 0 || what > 5) throw new NoSuchElementException();
        return new int[] {q.answer ? 1 : 0, q.client, q.number, q.answer ? -1 : q.server, q.answer ? q.status : -1, q.kind}[what];
    }

    int got(int client, int number, int what) {
        if (client < 0 || client > 5 || what < 0 || what > 2 || !answers.get(client).containsKey(number)) return -1000000;
        return answers.get(client).get(number)[what];
    }

    int acked(int client) { return client < 0 || client > 5 ? -1 : ackedOfClient(client); }

    boolean is(int m, State s) { return m >= 0 && m < S && state[m] == s; }

    boolean crash(int m) {
        if (!is(m, State.UP) && !is(m, State.ASLEEP)) return false;
        goDown(m);
        return true;
    }

    boolean move(int m, State from, State to) {
        if (!is(m, from)) return false;
        state[m] = to;
        return true;
    }

    boolean restart(int m) { return move(m, State.DOWN, State.UP); }

    boolean sleep(int m) { return move(m, State.UP, State.ASLEEP); }

    boolean wake(int m) { return move(m, State.ASLEEP, State.UP); }

    boolean cut(int m, int j) {
        if (!is(m, State.UP) || j < -1 || j > R) return false;
        cut[m] = j;
        return true;
    }

    void coordinator(boolean gone) { away = gone; }

    int tick(int n) {
        if (n < 0 || n > 100) return -1;
        int r = 0;
        for (int i = 0; i < n; i++) r += oneTick();
        return r;
    }

    int owner(int t) { return t < 0 || t > 7 ? -1 : map[t]; }

    int copies(Lg g, int m) {
        int n = 0;
        if (g != null) for (Seg s : g.segs.values()) if (s.copies.containsKey(m)) n++;
        return n;
    }

    int server(int m, int what) {
        if (m < 0 || m >= S) return -1;
        int live = 0, used = 0;
        for (List<P> ps : liveParts(log[m]).values()) live += units(ps);
        for (Seg s : log[m].segs.values()) used += s.units();
        int onDisk = 0;
        for (int i = 0; i < S; i++) onDisk += copies(log[i], m) + (lost(i) ? copies(wentLog[i], m) : 0);
        for (Dead d : dead) onDisk += copies(d.log, m);
        switch (what) {
            case 0: return state[m].ordinal();
            case 1: return fenced[m] ? 1 : 0;
            case 2: return own.get(m).size();
            case 3: return safe[m];
            case 4: return log[m].segs.size();
            case 5: return live;
            case 6: return used - live;
            case 7: return log[m].segs.size() * Z - used;
            case 8: return onDisk;
            case 9: return cut[m];
            case 10: return misses[m];
            case 11: return log[m].head == null ? -1 : log[m].head;
            default: return -1;
        }
    }

    int segment(int m, int k, int what) {
        if (m < 0 || m >= S || k < 0 || k >= log[m].segs.size()) return -1;
        Seg s = new ArrayList<>(log[m].segs.values()).get(k);
        int u = 0;
        for (int h : s.copies.keySet()) if (up(h)) u++;
        switch (what) {
            case 0: return s.name;
            case 1: return s.entries.size();
            case 2: return s.units();
            case 3: return units(liveParts(log[m]).get(s.name));
            case 4: return s.copies.size();
            case 5: return u;
            default: return -1;
        }
    }

    int peek(int m, int key, int what) {
        if (m < 0 || m >= S || key < 0 || key > 63 || what < 0 || what > 1) return -1;
        int[] o = object(log[m], key);
        return what == 0 ? o == null ? -1 : o[1] : o == null ? 0 : o[2];
    }

    int count(int what) {
        int full = 0, none = 0;
        for (Msg q : net) if (q != null) full++;
        for (int t : map) if (t < 0) none++;
        int[] all = {clock, full, names, cleanings, dead.size(), none, deaths, appended, forgot, away ? 1 : 0, mendings, effects};
        return what < 0 || what >= all.length ? -1 : all[what];
    }
}
