import java.util.ArrayList;
import java.util.NoSuchElementException;

/**
 * A store of values kept in the memories of servers as logs of segments whose copies lie on the
 * disks of others. The words in capitals in the comments are the terms of the document.
 */
public final class LogCluster {
    public static final int NONE = -1;

    private static final int CLIENTS = 6;
    private static final int NUMBERS = 40;
    private static final int PLACES = 40;
    private static final int KEYS = 64;
    private static final int TABLETS = 8;
    private static final int KEYS_OF_TABLET = 8;
    private static final int DEAD_LOGS = 16;
    private static final int MISSES_OF_DEAD = 3;
    private static final int TICKS = 100;
    private static final int NO_ANSWER = -1000000;

    private static final int NO_OWNER = -2;
    private static final int NET_FULL = -3;

    private static final int UP = 0;
    private static final int ASLEEP = 1;
    private static final int DOWN = 2;

    private static final int READ = 0;
    private static final int CHANGE = 2;
    private static final int REMOVE = 3;

    private static final int DONE = 0;
    private static final int NO_OBJECT = 1;
    private static final int OTHER_VERSION = 2;
    private static final int ELSEWHERE = 3;
    private static final int BUSY = 4;
    private static final int STALE = 5;

    private static final int ANSWERED = 0;
    private static final int WAS_DOWN = 1;
    private static final int STAYS = 2;
    private static final int WENT_DOWN = 3;
    private static final int TAKEN = 4;
    private static final int HAD_ONE = 5;
    private static final int NO_USE = 6;

    private static final int DIGEST = 0;
    private static final int NOTE = 1;
    private static final int OBJECT = 2;
    private static final int TOMB = 3;
    private static final int RESULT = 4;

    private final Storage storage;
    private final Coordinator keeper;
    private final Client[] clients;
    private final Message[] net;
    private int clock;
    private int effects;

    public LogCluster(int servers, int replicas, int units, int memory) {
        storage = new Storage(nearest(servers, 4, 8), nearest(replicas, 2, 3), nearest(units, 6, 16),
                nearest(memory, 5, 16));
        keeper = new Coordinator(storage);
        clients = new Client[CLIENTS];
        for (int i = 0; i < clients.length; i++) {
            clients[i] = new Client();
        }
        net = new Message[PLACES];
    }

    // ---- the clients and the NET

    public int send(int client, int kind, int key, int a, int b) {
        if (!isClient(client) || kind < READ || kind > REMOVE || !isKey(key)) {
            return NONE;
        }
        Client sender = clients[client];
        if (sender.used >= NUMBERS) {
            return NONE;
        }
        Request request = new Request(client, sender.used + 1, kind, key, a, b);
        int place = post(request, sender);
        if (place < 0) {
            return place;
        }
        sender.keep(request);
        return request.number;
    }

    public int again(int client, int number) {
        Request request = requestOf(client, number);
        if (request == null) {
            return NONE;
        }
        return post(request, clients[client]);
    }

    public int deliver(int place) {
        Message message = messageAt(place);
        if (message == null) {
            return NONE;
        }
        if (message.answer != null) {
            net[place] = null;
            return clients[message.request.client].take(message.request.number, message.answer);
        }
        Server target = message.target;
        if (target == null || target.state == DOWN) {
            net[place] = null;
            return WAS_DOWN;
        }
        if (target.state == ASLEEP) {
            return STAYS;
        }
        Answer answer = serve(target, message);
        if (answer == null) {
            net[place] = null;
            return WENT_DOWN;
        }
        net[place] = new Message(message.request, message.acked, null, answer);
        return ANSWERED;
    }

    public boolean drop(int place) {
        if (messageAt(place) == null) {
            return false;
        }
        net[place] = null;
        return true;
    }

    public int twice(int place) {
        Message message = messageAt(place);
        if (message == null) {
            return NONE;
        }
        int other = freePlace();
        if (other == NONE) {
            return NET_FULL;
        }
        // a MESSAGE never changes, so that both places may share it
        net[other] = message;
        return other;
    }

    public int message(int place, int what) throws NoSuchElementException {
        Message message = messageAt(place);
        if (message == null) {
            throw new NoSuchElementException("no message at this place");
        }
        switch (what) {
            case 0:
                return message.answer == null ? 0 : 1;
            case 1:
                return message.request.client;
            case 2:
                return message.request.number;
            case 3:
                return message.target == null ? NONE : message.target.number;
            case 4:
                return message.answer == null ? NONE : message.answer.status;
            case 5:
                return message.request.kind;
            default:
                throw new NoSuchElementException("no such question about a message");
        }
    }

    public int got(int client, int number, int what) {
        if (requestOf(client, number) == null) {
            return NO_ANSWER;
        }
        Answer answer = clients[client].answers[number - 1];
        if (answer == null) {
            return NO_ANSWER;
        }
        switch (what) {
            case 0:
                return answer.status;
            case 1:
                return answer.value;
            case 2:
                return answer.version;
            default:
                return NO_ANSWER;
        }
    }

    public int acked(int client) {
        return isClient(client) ? clients[client].leastOpen() : NONE;
    }

    // ---- what befalls the servers and the coordinator

    public boolean crash(int server) {
        if (!isServer(server) || storage.servers[server].state == DOWN) {
            return false;
        }
        keeper.bringDown(storage.servers[server]);
        return true;
    }

    public boolean restart(int server) {
        return moved(server, DOWN, UP);
    }

    public boolean sleep(int server) {
        return moved(server, UP, ASLEEP);
    }

    public boolean wake(int server) {
        return moved(server, ASLEEP, UP);
    }

    public boolean cut(int server, int j) {
        if (!isServer(server) || j < NONE || j > storage.replicas) {
            return false;
        }
        Server told = storage.servers[server];
        if (told.state != UP) {
            return false;
        }
        told.cutAt = j;
        return true;
    }

    public void coordinator(boolean away) {
        storage.away = away;
    }

    public int tick(int n) {
        if (n < 0 || n > TICKS) {
            return NONE;
        }
        int recovered = 0;
        for (int i = 0; i < n; i++) {
            clock++;
            keeper.tendServers();
            if (!storage.away) {
                keeper.lookForDead();
                recovered += keeper.recoverDead();
            }
        }
        return recovered;
    }

    // ---- what can be asked

    public int owner(int tablet) {
        return tablet < 0 || tablet >= TABLETS ? NONE : keeper.owners[tablet];
    }

    public int server(int server, int what) {
        if (!isServer(server)) {
            return NONE;
        }
        Server asked = storage.servers[server];
        switch (what) {
            case 0:
                return asked.state;
            case 1:
                return asked.fenced ? 1 : 0;
            case 2:
                return Integer.bitCount(asked.tablets);
            case 3:
                return asked.safe;
            case 4:
                return asked.log.segments.size();
            case 5:
            case 6:
            case 7:
                return unitsOf(asked.log, what);
            case 8:
                return keeper.copiesOnDisk(server);
            case 9:
                return asked.cutAt;
            case 10:
                return asked.misses;
            case 11:
                return asked.log.head == null ? NONE : asked.log.head.name;
            default:
                return NONE;
        }
    }

    public int segment(int server, int k, int what) {
        if (!isServer(server) || k < 0 || k >= storage.servers[server].log.segments.size()) {
            return NONE;
        }
        Log log = storage.servers[server].log;
        Segment asked = log.segments.get(k);
        switch (what) {
            case 0:
                return asked.name;
            case 1:
                return asked.entryTotal;
            case 2:
                return asked.units;
            case 3:
                storage.survey.markLive(log);
                return asked.liveUnits;
            case 4:
                return asked.holderTotal;
            case 5:
                return Integer.bitCount(asked.holderMask & storage.up);
            default:
                return NONE;
        }
    }

    public int peek(int server, int key, int what) {
        if (!isServer(server) || !isKey(key) || what < 0 || what > 1) {
            return NONE;
        }
        Part object = storage.servers[server].log.objectOf(key);
        if (what == 0) {
            return object == null ? NONE : object.value;
        }
        return object == null ? 0 : object.version;
    }

    public int count(int what) {
        switch (what) {
            case 0:
                return clock;
            case 1:
                return messagesInNet();
            case 2:
                return storage.nextName;
            case 3:
                return storage.cleanings;
            case 4:
                return keeper.dead.size();
            case 5:
                return keeper.tabletsOf(NONE);
            case 6:
                return keeper.deaths;
            case 7:
                return storage.appended;
            case 8:
                return keeper.forgotten;
            case 9:
                return storage.away ? 1 : 0;
            case 10:
                return storage.mendings;
            case 11:
                return effects;
            default:
                return NONE;
        }
    }

    // ---- a REQUEST at a SERVER that is UP

    /** The ANSWER; null if the SERVER went DOWN with the REQUEST. */
    private Answer serve(Server target, Message message) {
        Request request = message.request;
        if (target.fenced) {
            keeper.forget(target);
        }
        if ((target.tablets >> tabletOf(request.key) & 1) == 0) {
            return new Answer(ELSEWHERE, 0, 0);
        }
        return request.kind == READ ? readAt(target, request.key) : changeAt(target, message);
    }

    private Answer readAt(Server target, int key) {
        // no UNITS are needed: a READ asks only for a HEAD whose HOLDERS are UP
        if (!storage.makeRoom(target, 0, true)) {
            return new Answer(BUSY, 0, 0);
        }
        Part object = target.log.objectOf(key);
        return object == null ? new Answer(NO_OBJECT, 0, 0)
                : new Answer(DONE, object.value, object.version);
    }

    private Answer changeAt(Server target, Message message) {
        Request request = message.request;
        int acked = Math.max(target.log.ackedOf(request.client), message.acked);
        Answer early = answerWithoutEntry(target, request, acked);
        if (early != null) {
            return early;
        }
        Part result = Part.result(request, acked);
        Part effect = decide(target, request, result);
        int units = result.units + (effect == null ? 0 : effect.units);
        if (!storage.makeRoom(target, units, true)) {
            return new Answer(BUSY, 0, 0);
        }
        if (effect != null && effect.kind == TOMB) {
            // only now: the OPENING for this TOMB may have moved the OBJECT by CLEANING
            effect.home = target.log.homeOf(effect.key);
        }
        int cutAt = target.cutAt;
        storage.write(target, effect, result, cutAt);
        if (effect != null && cutAt != 0) {
            effects++;
        }
        if (cutAt != NONE) {
            keeper.bringDown(target);
            return null;
        }
        if (effect != null) {
            target.safe++;
        }
        return new Answer(result.status, result.value, result.version);
    }

    /** The ANSWER to a number that is acked or has its RESULT already; else null. */
    private static Answer answerWithoutEntry(Server target, Request request, int acked) {
        if (request.number < acked) {
            return new Answer(STALE, 0, 0);
        }
        Part told = target.log.resultOf(request.client, request.number);
        return told == null ? null : new Answer(told.status, told.value, told.version);
    }

    /** Tells the RESULT its outcome; the OBJECT or TOMB that comes with it, or null. */
    private static Part decide(Server target, Request request, Part result) {
        Part old = target.log.objectOf(request.key);
        int oldVersion = old == null ? 0 : old.version;
        int version = target.safe + 1;
        if (request.kind == CHANGE && oldVersion != request.b) {
            result.tell(OTHER_VERSION, old == null ? 0 : old.value, oldVersion);
            return null;
        }
        if (request.kind == REMOVE) {
            if (old == null) {
                result.tell(NO_OBJECT, 0, 0);
                return null;
            }
            result.tell(DONE, 0, version);
            return Part.tomb(request.key, version);
        }
        result.tell(DONE, request.a, version);
        return Part.object(request.key, request.a, version);
    }

    // ---- small helpers of the face

    private static int nearest(int value, int least, int most) {
        return Math.max(least, Math.min(most, value));
    }

    private static int tabletOf(int key) {
        return key / KEYS_OF_TABLET;
    }

    private static boolean isClient(int client) {
        return client >= 0 && client < CLIENTS;
    }

    private static boolean isKey(int key) {
        return key >= 0 && key < KEYS;
    }

    private boolean isServer(int server) {
        return server >= 0 && server < storage.servers.length;
    }

    private boolean moved(int server, int from, int to) {
        if (!isServer(server) || storage.servers[server].state != from) {
            return false;
        }
        storage.setState(storage.servers[server], to);
        return true;
    }

    private Request requestOf(int client, int number) {
        if (!isClient(client) || number < 1 || number > clients[client].used) {
            return null;
        }
        return clients[client].requests[number - 1];
    }

    private Message messageAt(int place) {
        return place < 0 || place >= net.length ? null : net[place];
    }

    private int freePlace() {
        for (int i = 0; i < net.length; i++) {
            if (net[i] == null) {
                return i;
            }
        }
        return NONE;
    }

    /** A REQUEST comes into the NET, to the OWNER of now: its place, or why there is none. */
    private int post(Request request, Client sender) {
        int target = keeper.owners[tabletOf(request.key)];
        if (target == NONE) {
            return NO_OWNER;
        }
        int place = freePlace();
        if (place == NONE) {
            return NET_FULL;
        }
        net[place] = new Message(request, sender.leastOpen(), storage.servers[target], null);
        return place;
    }

    private int messagesInNet() {
        int total = 0;
        for (int i = 0; i < net.length; i++) {
            if (net[i] != null) {
                total++;
            }
        }
        return total;
    }

    /** As the face asks: 5 LIVE UNITS, 6 those that are not, 7 free ones. */
    private int unitsOf(Log log, int what) {
        storage.survey.markLive(log);
        int live = 0;
        int filled = 0;
        for (int i = 0; i < log.segments.size(); i++) {
            live += log.segments.get(i).liveUnits;
            filled += log.segments.get(i).units;
        }
        if (what == 5) {
            return live;
        }
        return what == 6 ? filled - live : log.segments.size() * storage.units - filled;
    }

    // ---- what clients and the NET are made of

    /** What a client asks; never changed, so that all MESSAGES about it may share it. */
    private static final class Request {
        final int client;
        final int number;
        final int kind;
        final int key;
        final int a;
        final int b;

        Request(int client, int number, int kind, int key, int a, int b) {
            this.client = client;
            this.number = number;
            this.kind = kind;
            this.key = key;
            this.a = a;
            this.b = b;
        }
    }

    private static final class Answer {
        final int status;
        final int value;
        final int version;

        Answer(int status, int value, int version) {
            this.status = status;
            this.value = value;
            this.version = version;
        }
    }

    /** A REQUEST on its way to a SERVER if it has no answer, else an ANSWER (without a target). */
    private static final class Message {
        final Request request;
        final int acked;
        final Server target;
        final Answer answer;

        Message(Request request, int acked, Server target, Answer answer) {
            this.request = request;
            this.acked = acked;
            this.target = target;
            this.answer = answer;
        }
    }

    /** A client's REQUESTS and answers, each at its number less 1. */
    private static final class Client {
        final Request[] requests = new Request[NUMBERS];
        final Answer[] answers = new Answer[NUMBERS];
        int used;

        void keep(Request request) {
            if (used < requests.length) {
                requests[used] = request;
                used++;
            }
        }

        /** What the delivery of an ANSWER does here, as the face tells it. */
        int take(int number, Answer answer) {
            if (answer.status == ELSEWHERE || answer.status == BUSY) {
                return NO_USE;
            }
            if (number < 1 || number > answers.length || answers[number - 1] != null) {
                return HAD_ONE;
            }
            answers[number - 1] = answer;
            return TAKEN;
        }

        /** ACKED of the client. */
        int leastOpen() {
            for (int i = 0; i < used; i++) {
                if (answers[i] == null) {
                    return i + 1;
                }
            }
            return used + 1;
        }
    }

    // ---- what a LOG is made of

    /**
     * A PART of an ENTRY, a NOTE or a DIGEST (whose version is the SAFE number). It is not changed
     * once it lies in a SEGMENT, so that CLEANING and recoveries carry it over as it is.
     */
    private static final class Part {
        final int kind;
        final int units;
        /** Whether it is an OBJECT or TOMB. */
        final boolean marksVersion;
        /** Whether it is a RESULT or NOTE. */
        final boolean tellsAcked;
        int client = NONE;
        int number = NONE;
        int key = NONE;
        int status;
        int value;
        int version;
        int acked;
        Segment home;

        Part(int kind) {
            this.kind = kind;
            units = kind == OBJECT ? 2 : 1;
            marksVersion = kind == OBJECT || kind == TOMB;
            tellsAcked = kind == RESULT || kind == NOTE;
        }

        static Part digest(int safe) {
            Part part = new Part(DIGEST);
            part.version = safe;
            return part;
        }

        static Part note(int client, int acked) {
            Part part = new Part(NOTE);
            part.client = client;
            part.acked = acked;
            return part;
        }

        static Part object(int key, int value, int version) {
            Part part = new Part(OBJECT);
            part.key = key;
            part.value = value;
            part.version = version;
            return part;
        }

        static Part tomb(int key, int version) {
            Part part = new Part(TOMB);
            part.key = key;
            part.version = version;
            return part;
        }

        static Part result(Request request, int acked) {
            Part part = new Part(RESULT);
            part.client = request.client;
            part.number = request.number;
            part.key = request.key;
            part.acked = acked;
            return part;
        }

        void tell(int newStatus, int newValue, int newVersion) {
            status = newStatus;
            value = newValue;
            version = newVersion;
        }
    }

    private static final class Segment {
        final int name;
        final Part[] parts;
        final boolean[] live;
        /** How many PARTS the ENTRIES up to each one have. */
        final int[] entryEnds;
        final int[] holders;
        /** How many ENTRIES each of the HOLDERS has. */
        final int[] held;
        int partTotal;
        int entryTotal;
        int units;
        int liveUnits;
        int holderTotal;
        int holderMask;
        boolean gone;

        Segment(int name, int units, int servers) {
            this.name = name;
            // every PART has a UNIT at least, so that no more than the UNITS fit
            parts = new Part[units];
            live = new boolean[units];
            entryEnds = new int[units];
            holders = new int[servers];
            held = new int[servers];
        }

        void addHolder(int server) {
            if (holderTotal < holders.length) {
                holders[holderTotal] = server;
                held[holderTotal] = entryTotal;
                holderTotal++;
                holderMask |= 1 << server;
            }
        }

        /** An ENTRY of one or two PARTS (first may be null) comes to the first of the HOLDERS. */
        void addEntry(Part first, Part second, int copies) {
            int needed = first == null ? 1 : 2;
            if (partTotal + needed > parts.length) {
                return;
            }
            if (first != null) {
                parts[partTotal] = first;
                partTotal++;
                units += first.units;
            }
            parts[partTotal] = second;
            partTotal++;
            units += second.units;
            entryEnds[entryTotal] = partTotal;
            entryTotal++;
            for (int i = 0; i < copies && i < holderTotal; i++) {
                held[i] = entryTotal;
            }
        }

        /** How many PARTS the fullest of the copies at SERVERS that are UP has. */
        int partsReadable(int up) {
            int most = 0;
            for (int i = 0; i < holderTotal; i++) {
                if ((up >> holders[i] & 1) == 1 && held[i] > most) {
                    most = held[i];
                }
            }
            return most == 0 ? 0 : entryEnds[most - 1];
        }

        /** The OBJECT of the KEY with the greatest version here, or null. */
        Part objectHere(int key) {
            Part found = null;
            for (int i = 0; i < partTotal; i++) {
                Part part = parts[i];
                if (part.kind == OBJECT && part.key == key
                        && (found == null || part.version > found.version)) {
                    found = part;
                }
            }
            return found;
        }
    }

    /** The SEGMENTS by NAMES: a new one has the greatest NAME and comes in behind all others. */
    private static final class Log {
        final ArrayList<Segment> segments = new ArrayList<>();
        Segment head;
        /** The SEGMENT opened latest by OPENING, the HEAD or not. */
        Segment latest;
        /** Of a DEAD LOG: the TABLETS that have no OWNER yet, as bits. */
        int tablets;

        /** The SEGMENT where the LIVE OBJECT of a KEY is, or null. */
        Segment homeOf(int key) {
            Segment home = null;
            int greatest = 0;
            for (int i = 0; i < segments.size(); i++) {
                Segment segment = segments.get(i);
                for (int j = 0; j < segment.partTotal; j++) {
                    Part part = segment.parts[j];
                    if (part.marksVersion && part.key == key && part.version > greatest) {
                        greatest = part.version;
                        home = part.kind == OBJECT ? segment : null;
                    }
                }
            }
            return home;
        }

        Part objectOf(int key) {
            Segment home = homeOf(key);
            return home == null ? null : home.objectHere(key);
        }

        /** ACKED of a client in this LOG. */
        int ackedOf(int client) {
            int greatest = 1;
            for (int i = 0; i < segments.size(); i++) {
                Segment segment = segments.get(i);
                for (int j = 0; j < segment.partTotal; j++) {
                    Part part = segment.parts[j];
                    if (part.tellsAcked && part.client == client && part.acked > greatest) {
                        greatest = part.acked;
                    }
                }
            }
            return greatest;
        }

        Part resultOf(int client, int number) {
            for (int i = 0; i < segments.size(); i++) {
                Segment segment = segments.get(i);
                for (int j = 0; j < segment.partTotal; j++) {
                    Part part = segment.parts[j];
                    if (part.kind == RESULT && part.client == client && part.number == number) {
                        return part;
                    }
                }
            }
            return null;
        }

        void letGo(Segment segment) {
            segment.gone = true;
            for (int i = 0; i < segments.size(); i++) {
                if (segments.get(i).name == segment.name) {
                    segments.remove(i);
                    return;
                }
            }
        }

        int copiesAt(int server) {
            int total = 0;
            for (int i = 0; i < segments.size(); i++) {
                total += segments.get(i).holderMask >> server & 1;
            }
            return total;
        }
    }

    /** What a walk through a LOG finds; its rows are made once and used for many walks. */
    private static final class Survey {
        final int[] acked = new int[CLIENTS];
        /** Whether a RESULT anywhere, or a NOTE met already, has ACKED of the client. */
        final boolean[] ackedKept = new boolean[CLIENTS];
        final int[] versions = new int[KEYS];
        final Part[] objects = new Part[KEYS];
        final Part[] results = new Part[CLIENTS * NUMBERS];
        int greatestTold;

        private void begin() {
            greatestTold = 0;
            for (int i = 0; i < acked.length; i++) {
                acked[i] = 1;
                ackedKept[i] = false;
            }
            for (int i = 0; i < versions.length; i++) {
                versions[i] = 0;
                objects[i] = null;
            }
        }

        private void learn(Part part) {
            if (part.version > greatestTold) {
                greatestTold = part.version;
            }
            if (part.tellsAcked && part.acked > acked[part.client]) {
                acked[part.client] = part.acked;
                ackedKept[part.client] = false;
            }
            if (part.kind == RESULT && part.acked == acked[part.client]) {
                ackedKept[part.client] = true;
            }
            if (part.marksVersion && part.version > versions[part.key]) {
                versions[part.key] = part.version;
                objects[part.key] = part.kind == OBJECT ? part : null;
            }
        }

        /** Marks in the SEGMENTS of a LOG what is LIVE, until the LOG is changed. */
        void markLive(Log log) {
            begin();
            for (int i = 0; i < log.segments.size(); i++) {
                Segment segment = log.segments.get(i);
                for (int j = 0; j < segment.partTotal; j++) {
                    learn(segment.parts[j]);
                }
            }
            for (int i = 0; i < log.segments.size(); i++) {
                Segment segment = log.segments.get(i);
                segment.liveUnits = 0;
                for (int j = 0; j < segment.partTotal; j++) {
                    segment.live[j] = isLive(segment.parts[j]);
                    segment.liveUnits += segment.live[j] ? segment.parts[j].units : 0;
                }
            }
        }

        /** Asked of all PARTS in their order, for of NOTES that are alike the first one is LIVE. */
        private boolean isLive(Part part) {
            if (part.kind == OBJECT) {
                return part.version == versions[part.key];
            }
            if (part.kind == TOMB) {
                return part.home != null && !part.home.gone;
            }
            if (part.kind == RESULT) {
                return part.number >= acked[part.client];
            }
            if (part.kind != NOTE || part.acked != acked[part.client] || ackedKept[part.client]) {
                return false;
            }
            ackedKept[part.client] = true;
            return true;
        }

        /** Reads a DEAD LOG from the copies at SERVERS that are UP. */
        void readDead(Log log, int up) {
            begin();
            for (int i = 0; i < results.length; i++) {
                results[i] = null;
            }
            for (int i = 0; i < log.segments.size(); i++) {
                Segment segment = log.segments.get(i);
                int readable = segment.partsReadable(up);
                for (int j = 0; j < readable; j++) {
                    Part part = segment.parts[j];
                    learn(part);
                    if (part.kind == RESULT) {
                        results[part.client * NUMBERS + part.number - 1] = part;
                    }
                }
            }
        }
    }

    private static final class Server {
        final int number;
        int state = UP;
        boolean fenced;
        boolean lost;
        /** The TABLETS that are its own, as bits. */
        int tablets;
        int safe;
        int cutAt = NONE;
        int misses;
        Log log = new Log();
        /** Of a LOST one: the LOG that it had as it went DOWN. */
        Log lostLog;

        Server(int number) {
            this.number = number;
        }

        /** All that is in memory is gone. */
        void empty() {
            fenced = false;
            tablets = 0;
            safe = 0;
            cutAt = NONE;
            log = new Log();
        }
    }

    /** The SERVERS with their LOGS: OPENING, CLEANING, APPENDING and MENDING. */
    private static final class Storage {
        final int replicas;
        final int units;
        final int memory;
        final Server[] servers;
        final Survey survey = new Survey();
        /** Rows for CLEANING alone. */
        final ArrayList<Segment> sorted = new ArrayList<>();
        /** The SERVERS that are UP, as bits. */
        int up;
        boolean away;
        int nextName;
        int cleanings;
        int appended;
        int mendings;

        Storage(int serverTotal, int replicas, int units, int memory) {
            this.replicas = replicas;
            this.units = units;
            this.memory = memory;
            servers = new Server[serverTotal];
            for (int i = 0; i < servers.length; i++) {
                servers[i] = new Server(i);
                up |= 1 << i;
            }
        }

        void setState(Server server, int state) {
            server.state = state;
            up &= ~(1 << server.number);
            if (state == UP) {
                up |= 1 << server.number;
            }
        }

        boolean isUp(int server) {
            return (up >> server & 1) == 1;
        }

        boolean allHoldersUp(Segment segment) {
            return (segment.holderMask & ~up) == 0;
        }

        /** The SERVER at a step of the RING, which has the SERVER of the SEGMENT itself, too. */
        private int ringAt(int name, Server server, int step) {
            return (7 * name + 3 * server.number + step) % servers.length;
        }

        /** A HEAD that takes so many UNITS, by OPENING if need be; false: refused. */
        boolean makeRoom(Server server, int needed, boolean limited) {
            Segment head = server.log.head;
            if (head != null && allHoldersUp(head) && head.units + needed <= units) {
                return true;
            }
            return open(server, limited);
        }

        /** OPENING, with the limit of SEGMENTS or (in recoveries) without; false: refused. */
        boolean open(Server server, boolean limited) {
            if (away || Integer.bitCount(up & ~(1 << server.number)) < replicas) {
                return false;
            }
            Log log = server.log;
            log.head = null;
            if (log.segments.size() >= memory - 1) {
                clean(server);
            }
            if (limited && log.segments.size() >= memory) {
                return false;
            }
            Segment head = newSegment(server);
            head.addEntry(null, Part.digest(server.safe), head.holderTotal);
            log.segments.add(head);
            log.head = head;
            log.latest = head;
            return true;
        }

        private Segment newSegment(Server server) {
            Segment segment = new Segment(nextName, units, servers.length);
            nextName++;
            for (int i = 0; i < servers.length && segment.holderTotal < replicas; i++) {
                int holder = ringAt(segment.name, server, i);
                if (holder != server.number && isUp(holder)) {
                    segment.addHolder(holder);
                }
            }
            return segment;
        }

        private void clean(Server server) {
            Log log = server.log;
            survey.markLive(log);
            sortForCleaning(log);
            int empty = 0;
            while (empty < sorted.size() && sorted.get(empty).liveUnits == 0) {
                log.letGo(sorted.get(empty));
                empty++;
            }
            int end = endOfPacked(empty);
            boolean packs = end - empty >= 2;
            if (packs) {
                Segment packed = newSegment(server);
                for (int i = empty; i < end && i < sorted.size(); i++) {
                    copyLive(sorted.get(i), packed);
                    log.letGo(sorted.get(i));
                }
                log.segments.add(packed);
            }
            if (empty > 0 || packs) {
                cleanings++;
            }
            sorted.clear();
        }

        /** All but the one opened latest, by LIVE UNITS, then by NAMES. */
        private void sortForCleaning(Log log) {
            sorted.clear();
            for (int i = 0; i < log.segments.size(); i++) {
                Segment segment = log.segments.get(i);
                if (segment != log.latest) {
                    int place = sorted.size();
                    while (place > 0 && sorted.get(place - 1).liveUnits > segment.liveUnits) {
                        place--;
                    }
                    sorted.add(place, segment);
                }
            }
        }

        /** Behind the last of the sorted SEGMENTS, from a first one on, that fit into one. */
        private int endOfPacked(int first) {
            int together = 0;
            for (int i = first; i < sorted.size(); i++) {
                together += sorted.get(i).liveUnits;
                if (together > units) {
                    return i;
                }
            }
            return sorted.size();
        }

        private static void copyLive(Segment from, Segment to) {
            for (int i = 0; i < from.partTotal; i++) {
                if (from.live[i]) {
                    to.addEntry(null, from.parts[i], to.holderTotal);
                }
            }
        }

        /** An ENTRY for which there is room comes into the HEAD; cutAt: to how many HOLDERS, NONE all. */
        void write(Server server, Part first, Part second, int cutAt) {
            Segment head = server.log.head;
            if (head != null) {
                head.addEntry(first, second, cutAt == NONE ? head.holderTotal : cutAt);
                appended++;
            }
        }

        void mend(Server server) {
            for (int i = 0; i < server.log.segments.size(); i++) {
                Segment segment = server.log.segments.get(i);
                if (Integer.bitCount(segment.holderMask & up) < replicas) {
                    int spare = spareFor(segment, server);
                    if (spare != NONE) {
                        segment.addHolder(spare);
                        mendings++;
                        return;
                    }
                }
            }
        }

        private int spareFor(Segment segment, Server server) {
            for (int i = 0; i < servers.length; i++) {
                int spare = ringAt(segment.name, server, i);
                if (spare != server.number && isUp(spare)
                        && (segment.holderMask >> spare & 1) == 0) {
                    return spare;
                }
            }
            return NONE;
        }

        /** Whether a DEAD LOG can be RECOVERED now. */
        boolean canRecover(Log log) {
            if (Integer.bitCount(up) < replicas + 1) {
                return false;
            }
            for (int i = 0; i < log.segments.size(); i++) {
                if ((log.segments.get(i).holderMask & up) == 0) {
                    return false;
                }
            }
            return true;
        }
    }

    /** The MAP and what is done by it: who is DEAD, and who has the TABLETS then. */
    private static final class Coordinator {
        final Storage storage;
        final int[] owners = new int[TABLETS];
        final ArrayList<Log> dead = new ArrayList<>();
        /** Of the DEAD LOG in its turn; OPENINGS in its recovery use the storage's own. */
        final Survey past = new Survey();
        /** A row for the ENTRIES of a TABLET that gets a new OWNER. */
        final ArrayList<Part> moving = new ArrayList<>();
        int deaths;
        int forgotten;

        Coordinator(Storage storage) {
            this.storage = storage;
            for (int i = 0; i < owners.length; i++) {
                int first = i % storage.servers.length;
                owners[i] = first;
                storage.servers[first].tablets |= 1 << i;
            }
        }

        /** How many TABLETS a SERVER (or NONE) has by the MAP. */
        int tabletsOf(int server) {
            int total = 0;
            for (int i = 0; i < owners.length; i++) {
                if (owners[i] == server) {
                    total++;
                }
            }
            return total;
        }

        void bringDown(Server server) {
            // one that is LOST already came UP without a LOG: the one it lost stays
            if (!server.lost && tabletsOf(server.number) > 0) {
                server.lost = true;
                server.lostLog = server.log;
            }
            server.empty();
            storage.setState(server, DOWN);
        }

        void forget(Server server) {
            server.empty();
            forgotten++;
        }

        int copiesOnDisk(int server) {
            int total = 0;
            for (int i = 0; i < storage.servers.length; i++) {
                Server other = storage.servers[i];
                total += other.log.copiesAt(server);
                total += other.lostLog == null ? 0 : other.lostLog.copiesAt(server);
            }
            for (int i = 0; i < dead.size(); i++) {
                total += dead.get(i).copiesAt(server);
            }
            return total;
        }

        /** Part a of a TICK. */
        void tendServers() {
            for (int i = 0; i < storage.servers.length; i++) {
                Server server = storage.servers[i];
                if (server.state == UP && server.fenced) {
                    forget(server);
                } else if (server.state == UP) {
                    Log log = server.log;
                    if (log.head != null && !storage.allHoldersUp(log.head)) {
                        log.head = null;
                    }
                    storage.mend(server);
                }
            }
        }

        /** Part b of a TICK. */
        void lookForDead() {
            for (int i = 0; i < storage.servers.length; i++) {
                Server server = storage.servers[i];
                server.misses = server.state == UP ? 0 : server.misses + 1;
                boolean ends = server.misses >= MISSES_OF_DEAD || server.state == UP && server.lost;
                if (ends && dead.size() < DEAD_LOGS && tabletsOf(i) > 0) {
                    declareDead(server);
                }
            }
        }

        private void declareDead(Server server) {
            Log log = server.log;
            if (server.lost && server.lostLog != null) {
                log = server.lostLog;
                server.lostLog = null;
                server.lost = false;
            } else {
                server.fenced = true;
                server.log = new Log();
            }
            for (int i = 0; i < owners.length; i++) {
                if (owners[i] == server.number) {
                    owners[i] = NONE;
                    log.tablets |= 1 << i;
                }
            }
            dead.add(log);
            deaths++;
        }

        /** Part c of a TICK: how many DEAD LOGS were RECOVERED. */
        int recoverDead() {
            int recovered = 0;
            int turn = 0;
            for (int left = dead.size(); left > 0 && turn < dead.size(); left--) {
                Log log = dead.get(turn);
                if (storage.canRecover(log)) {
                    past.readDead(log, storage.up);
                    for (int tablet = 0; tablet < TABLETS; tablet++) {
                        Server heir = (log.tablets >> tablet & 1) == 1 ? heirOfNext() : null;
                        if (heir != null) {
                            log.tablets &= ~(1 << tablet);
                            takeOver(heir, tablet);
                        }
                    }
                }
                if (log.tablets == 0) {
                    dead.remove(turn);
                    recovered++;
                } else {
                    turn++;
                }
            }
            return recovered;
        }

        /** The OWNER of the next TABLET that has none, or null. */
        private Server heirOfNext() {
            Server heir = null;
            int fewest = TABLETS + 1;
            for (int i = 0; i < storage.servers.length; i++) {
                Server server = storage.servers[i];
                int has = tabletsOf(i);
                if (server.state == UP && !server.fenced && !server.lost && has < fewest) {
                    heir = server;
                    fewest = has;
                }
            }
            return heir;
        }

        private void takeOver(Server heir, int tablet) {
            owners[tablet] = heir.number;
            heir.tablets |= 1 << tablet;
            if (past.greatestTold > heir.safe) {
                heir.safe = past.greatestTold;
                storage.open(heir, false);
            }
            gatherMoving(heir.log, tablet);
            for (int i = 0; i < moving.size(); i++) {
                Part part = moving.get(i);
                if (storage.makeRoom(heir, part.units, false)) {
                    storage.write(heir, null, part, NONE);
                }
            }
            moving.clear();
        }

        /** What was read of the DEAD LOG and is due in the LOG of a TABLET's new OWNER. */
        private void gatherMoving(Log log, int tablet) {
            moving.clear();
            for (int i = 0; i < CLIENTS; i++) {
                if (past.acked[i] > log.ackedOf(i)) {
                    moving.add(Part.note(i, past.acked[i]));
                }
            }
            for (int i = 0; i < KEYS_OF_TABLET; i++) {
                Part object = past.objects[tablet * KEYS_OF_TABLET + i];
                if (object != null) {
                    moving.add(object);
                }
            }
            for (int i = 0; i < past.results.length; i++) {
                Part result = past.results[i];
                if (result != null && tabletOf(result.key) == tablet
                        && result.number >= past.acked[result.client]) {
                    moving.add(result);
                }
            }
        }
    }
}
