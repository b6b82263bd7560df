import java.util.Arrays;

/** Calls that take effect once, whatever letters are lost, doubled or late; ../shared/DOC.md tells the promises. */
public final class OnceCalls {
    public static final int NONE = -1, FULL = -2, STATE = -3;

    private static final int CLIENTS = 6;
    private static final int KEYS = 32;
    private static final int BUCKETS = 8;
    private static final int KEYS_OF_A_BUCKET = KEYS / BUCKETS;
    private static final int MOST_RECORDS = 12;
    private static final int MOST_CALLS = 60;
    private static final int MOST_WAITING = 4;
    private static final int MOST_LETTERS = 400;
    /** No call of the object makes a server hold more than one letter, and 512 calls are promised. */
    private static final int MOST_HELD = 512;
    private static final int MOST_TICKS = 1000;

    private static final int REQUEST = 1, ANSWER = 2, MOVE = 3, TAKEN = 4, ACK = 5;
    private static final int LOST_ON_ARRIVAL = 10;

    private static final int NOT_HERE = 0, OWNED = 1, LEAVING = 2;

    private static final int CODE_RESULT = 0, CODE_ELSEWHERE = 1, CODE_LATER = 2, CODE_NOT_LIVE = 3, CODE_OLD = 4;

    private static final int WAITS = 0, DONE = 1, REFUSED = 2;

    private static final int PUT = 0, ADD = 1, TAKE = 2, MUL = 3;

    private final Server[] servers;
    private final Client[] clients;
    private final Row row;
    private final int lease;
    private int time;
    private int incarnations;
    private int lost;
    private int effects;
    private int done;

    public OnceCalls(int servers, int lease) {
        int serverCount = servers >= 2 && servers <= 4 ? servers : 3;
        this.lease = lease >= 1 && lease <= 1000 ? lease : 50;
        this.servers = new Server[serverCount];
        for (int s = 0; s < serverCount; s++) {
            this.servers[s] = new Server(s, serverCount);
        }
        this.clients = new Client[CLIENTS];
        for (int c = 0; c < CLIENTS; c++) {
            this.clients[c] = new Client(c, serverCount);
        }
        this.row = new Row(MOST_LETTERS);
    }

    public int open(int client) {
        Client opened = clientAt(client);
        if (opened == null) {
            return NONE;
        }
        incarnations++;
        opened.incarnation = incarnations;
        opened.calls = 0;
        opened.leaseEnd = time + lease;
        return opened.incarnation;
    }

    public int renew(int client) {
        Client renewed = clientAt(client);
        if (renewed == null) {
            return NONE;
        }
        if (!isLive(client, renewed.incarnation)) {
            return STATE;
        }
        renewed.leaseEnd = time + lease;
        return renewed.leaseEnd;
    }

    public int call(int client, int key, int act, long a, long b) {
        Client caller = clientAt(client);
        if (caller == null || key < 0 || key >= KEYS || act < PUT || act > MUL) {
            return NONE;
        }
        if (caller.incarnation == 0) {
            return STATE;
        }
        if (caller.calls >= MOST_CALLS || caller.waiting() >= MOST_WAITING) {
            return FULL;
        }
        int number = caller.newCall(key, act, a, b);
        send(requestOf(caller, number));
        return number;
    }

    public int retry(int client, int number) {
        Client caller = clientAt(client);
        if (caller == null || !caller.hasCall(number)) {
            return NONE;
        }
        if (caller.states[number] != WAITS) {
            return 0;
        }
        send(requestOf(caller, number));
        return 1;
    }

    public int ack(int client, int server) {
        Client teller = clientAt(client);
        if (teller == null || serverAt(server) == null) {
            return NONE;
        }
        if (teller.incarnation == 0) {
            return STATE;
        }
        Letter ack = new Letter(ACK, server, client);
        ack.incarnation = teller.incarnation;
        ack.first = teller.first();
        send(ack);
        return ack.first;
    }

    public int deliver(int i) {
        Letter letter = row.at(i);
        if (letter == null) {
            return NONE;
        }
        row.removeAt(i);
        if (letter.kind == ANSWER) {
            takeAnswer(letter);
            return letter.kind;
        }
        Server receiver = serverAt(letter.to);
        if (receiver == null || !receiver.up) {
            lost++;
            return letter.kind + LOST_ON_ARRIVAL;
        }
        takeAtServer(receiver, letter);
        return letter.kind;
    }

    public int drop(int i) {
        Letter letter = row.at(i);
        if (letter == null) {
            return NONE;
        }
        row.removeAt(i);
        lost++;
        return letter.kind;
    }

    public int twin(int i) {
        Letter letter = row.at(i);
        if (letter == null) {
            return NONE;
        }
        // Letters never change once they are sent, so a twin can be the same object.
        return row.append(letter) ? letter.kind : FULL;
    }

    public int sync(int server) {
        Server kept = serverAt(server);
        if (kept == null) {
            return NONE;
        }
        if (!kept.up) {
            return STATE;
        }
        kept.keep();
        int held = kept.held.size;
        for (int i = 0; i < held; i++) {
            send(kept.held.at(i));
        }
        kept.held.clear();
        return held;
    }

    public int crash(int server) {
        Server crashed = serverAt(server);
        if (crashed == null) {
            return NONE;
        }
        if (!crashed.up) {
            return STATE;
        }
        int held = crashed.held.size;
        lost += held;
        crashed.held.clear();
        crashed.up = false;
        // A server that is down shows what is kept, and starts with it: memory goes back to it at once.
        crashed.restore();
        return held;
    }

    public int start(int server) {
        Server started = serverAt(server);
        if (started == null) {
            return NONE;
        }
        if (started.up) {
            return STATE;
        }
        started.up = true;
        return 1;
    }

    public int move(int server, int bucket, int to) {
        Server giver = serverAt(server);
        if (giver == null || serverAt(to) == null) {
            return NONE;
        }
        Bucket moved = giver.bucketAt(bucket);
        if (moved == null) {
            return NONE;
        }
        if (!giver.up || to == server || !moved.canLeaveFor(to)) {
            return STATE;
        }
        if (moved.status == OWNED) {
            moved.status = LEAVING;
            moved.hint = to;
            giver.clean = false;
        }
        Letter letter = new Letter(MOVE, to, server);
        letter.bucket = bucket;
        letter.version = moved.version + 1;
        letter.load = new Bucket();
        letter.load.copyFrom(moved);
        sendFrom(giver, letter);
        return letter.version;
    }

    public int collect(int server) {
        Server collector = serverAt(server);
        if (collector == null) {
            return NONE;
        }
        if (!collector.up) {
            return STATE;
        }
        int gone = 0;
        for (int b = 0; b < BUCKETS; b++) {
            Bucket bucket = collector.bucketAt(b);
            if (bucket != null && bucket.status == OWNED) {
                gone += removeDeadRecords(bucket);
            }
        }
        if (gone > 0) {
            collector.clean = false;
        }
        return gone;
    }

    public int ticks(int n) {
        if (n < 0 || n > MOST_TICKS) {
            return NONE;
        }
        time += n;
        return time;
    }

    public int server(int server, int what) {
        Server asked = serverAt(server);
        if (asked == null) {
            return NONE;
        }
        switch (what) {
            case 0:
                return oneIf(asked.up);
            case 1:
                return oneIf(asked.up && asked.clean);
            case 2:
                return asked.held.size;
            case 3:
                return asked.up ? asked.recordsInAll() : 0;
            default:
                return NONE;
        }
    }

    public int bucket(int server, int bucket, int what) {
        Bucket asked = bucketAt(server, bucket);
        if (asked == null) {
            return NONE;
        }
        if (what >= 10 && what < 10 + CLIENTS) {
            return asked.incarnations[what - 10];
        }
        if (what >= 20 && what < 20 + CLIENTS) {
            return asked.firsts[what - 20];
        }
        switch (what) {
            case 0:
                return asked.status;
            case 1:
                return asked.version;
            case 2:
                return asked.hint;
            case 3:
                return asked.records;
            default:
                return NONE;
        }
    }

    public long value(int server, int key) {
        if (key < 0 || key >= KEYS) {
            return 0;
        }
        Bucket asked = bucketAt(server, bucketOf(key));
        return asked == null ? 0 : asked.values[placeOf(key)];
    }

    public int record(int server, int bucket, int i, int what) {
        Bucket asked = bucketAt(server, bucket);
        if (asked == null || i < 0 || i >= asked.records) {
            return NONE;
        }
        switch (what) {
            case 0:
                return asked.recordClients[i];
            case 1:
                return asked.recordIncarnations[i];
            case 2:
                return asked.recordNumbers[i];
            default:
                return NONE;
        }
    }

    public int client(int client, int what) {
        Client asked = clientAt(client);
        if (asked == null) {
            return NONE;
        }
        if (what >= 10 && what < 10 + BUCKETS) {
            return asked.guesses[what - 10];
        }
        switch (what) {
            case 0:
                return asked.incarnation;
            case 1:
                return asked.leaseEnd;
            case 2:
                return oneIf(isLive(client, asked.incarnation));
            case 3:
                return asked.calls;
            case 4:
                return asked.first();
            case 5:
                return asked.waiting();
            default:
                return NONE;
        }
    }

    public int state(int client, int number) {
        Client asked = clientAt(client);
        if (asked == null || !asked.hasCall(number)) {
            return NONE;
        }
        return asked.states[number];
    }

    public long result(int client, int number) {
        Client asked = clientAt(client);
        if (asked == null || !asked.hasCall(number) || asked.states[number] != DONE) {
            return 0;
        }
        return asked.results[number];
    }

    public int letter(int i, int what) {
        Letter asked = row.at(i);
        return asked == null ? NONE : asked.part(what);
    }

    public int count(int what) {
        switch (what) {
            case 0:
                return row.size;
            case 1:
                return lost;
            case 2:
                return effects;
            case 3:
                return done;
            case 4:
                return time;
            default:
                return NONE;
        }
    }

    private Client clientAt(int client) {
        return client >= 0 && client < clients.length ? clients[client] : null;
    }

    private Server serverAt(int server) {
        return server >= 0 && server < servers.length ? servers[server] : null;
    }

    private Bucket bucketAt(int server, int bucket) {
        Server holder = serverAt(server);
        return holder == null ? null : holder.bucketAt(bucket);
    }

    private boolean isLive(int client, int incarnation) {
        Client holder = clientAt(client);
        return holder != null && holder.incarnation != 0
            && holder.incarnation == incarnation && time <= holder.leaseEnd;
    }

    private void send(Letter letter) {
        if (letter != null && !row.append(letter)) {
            lost++;
        }
    }

    private void sendFrom(Server sender, Letter letter) {
        Row way = sender.clean ? row : sender.held;
        if (!way.append(letter)) {
            lost++;
        }
    }

    private void takeAnswer(Letter answer) {
        Client asker = clientAt(answer.to);
        if (asker == null || asker.incarnation != answer.incarnation
            || !asker.hasCall(answer.number) || asker.states[answer.number] != WAITS) {
            return;
        }
        if (answer.code == CODE_RESULT) {
            asker.states[answer.number] = DONE;
            asker.results[answer.number] = answer.result;
            done++;
        } else if (answer.code == CODE_ELSEWHERE) {
            asker.guesses[bucketOf(asker.keys[answer.number])] = (int) answer.result;
        } else if (answer.code == CODE_NOT_LIVE) {
            asker.refuseWaiting();
        }
    }

    private void takeAtServer(Server receiver, Letter letter) {
        switch (letter.kind) {
            case REQUEST:
                takeRequest(receiver, letter);
                break;
            case MOVE:
                takeMove(receiver, letter);
                break;
            case TAKEN:
                takeTaken(receiver, letter);
                break;
            case ACK:
                takeAck(receiver, letter);
                break;
            default:
                break;
        }
    }

    private void takeRequest(Server receiver, Letter request) {
        Bucket bucket = receiver.bucketAt(bucketOf(request.key));
        if (bucket == null) {
            return;
        }
        if (!isLive(request.from, request.incarnation)) {
            answer(receiver, request, CODE_NOT_LIVE, 0);
        } else if (bucket.status == LEAVING) {
            answer(receiver, request, CODE_LATER, 0);
        } else if (bucket.status == NOT_HERE) {
            answer(receiver, request, CODE_ELSEWHERE, bucket.hint);
        } else {
            takeOwnRequest(receiver, bucket, request);
        }
    }

    private void takeOwnRequest(Server receiver, Bucket bucket, Letter request) {
        if (bucket.know(request)) {
            receiver.clean = false;
        }
        int known = bucket.find(request);
        if (request.number < bucket.firstOf(request.from)) {
            answer(receiver, request, CODE_OLD, 0);
        } else if (known >= 0) {
            answer(receiver, request, CODE_RESULT, bucket.recordResults[known]);
        } else if (bucket.records >= MOST_RECORDS) {
            answer(receiver, request, CODE_LATER, 0);
        } else {
            long result = bucket.doAct(request);
            bucket.addRecord(request, result);
            receiver.clean = false;
            effects++;
            answer(receiver, request, CODE_RESULT, result);
        }
    }

    private void answer(Server sender, Letter request, int code, long result) {
        Letter answer = new Letter(ANSWER, request.from, sender.index);
        answer.incarnation = request.incarnation;
        answer.number = request.number;
        answer.code = code;
        answer.result = result;
        sendFrom(sender, answer);
    }

    private void takeMove(Server receiver, Letter letter) {
        Bucket bucket = receiver.bucketAt(letter.bucket);
        if (bucket == null || letter.load == null) {
            return;
        }
        if (letter.version > bucket.version) {
            bucket.copyFrom(letter.load);
            bucket.status = OWNED;
            bucket.version = letter.version;
            bucket.hint = receiver.index;
            receiver.clean = false;
        }
        Letter taken = new Letter(TAKEN, letter.from, receiver.index);
        taken.bucket = letter.bucket;
        taken.version = letter.version;
        sendFrom(receiver, taken);
    }

    private void takeTaken(Server receiver, Letter letter) {
        Bucket bucket = receiver.bucketAt(letter.bucket);
        if (bucket != null && bucket.status == LEAVING && bucket.version == letter.version - 1) {
            bucket.empty();
            bucket.status = NOT_HERE;
            bucket.version = letter.version;
            receiver.clean = false;
        }
    }

    private void takeAck(Server receiver, Letter ack) {
        for (int b = 0; b < BUCKETS; b++) {
            Bucket bucket = receiver.bucketAt(b);
            if (bucket != null && bucket.status == OWNED && bucket.know(ack)) {
                receiver.clean = false;
            }
        }
    }

    private int removeDeadRecords(Bucket bucket) {
        int before = bucket.records;
        for (int i = before - 1; i >= 0; i--) {
            if (!isLive(bucket.recordClients[i], bucket.recordIncarnations[i])) {
                bucket.removeRecord(i);
            }
        }
        return before - bucket.records;
    }

    private static Letter requestOf(Client caller, int number) {
        int key = caller.keys[number];
        Letter request = new Letter(REQUEST, caller.guesses[bucketOf(key)], caller.index);
        request.incarnation = caller.incarnation;
        request.number = number;
        request.first = caller.first();
        request.key = key;
        request.act = caller.acts[number];
        request.a = caller.as[number];
        request.b = caller.bs[number];
        return request;
    }

    private static int bucketOf(int key) {
        return key % BUCKETS;
    }

    private static int placeOf(int key) {
        return key / BUCKETS;
    }

    private static int oneIf(boolean yes) {
        return yes ? 1 : 0;
    }

    /** One letter of any kind; what its kind does not tell stays 0. */
    private static final class Letter {
        final int kind;
        final int to;
        /** The client that sends a request or an ack, the server that sends any other. */
        final int from;
        int incarnation;
        int version;
        int number;
        int first;
        int bucket;
        int code;
        int key;
        int act;
        long a;
        long b;
        long result;
        Bucket load;

        Letter(int kind, int to, int from) {
            this.kind = kind;
            this.to = to;
            this.from = from;
        }

        boolean isBetweenServers() {
            return kind == MOVE || kind == TAKEN;
        }

        int part(int what) {
            switch (what) {
                case 0:
                    return kind;
                case 1:
                    return to;
                case 2:
                    return from;
                case 3:
                    return isBetweenServers() ? version : incarnation;
                case 4:
                    return fourthPart();
                case 5:
                    return fifthPart();
                default:
                    return NONE;
            }
        }

        private int fourthPart() {
            if (isBetweenServers()) {
                return bucket;
            }
            return kind == ACK ? first : number;
        }

        private int fifthPart() {
            if (kind == REQUEST) {
                return first;
            }
            if (kind == ANSWER) {
                return code;
            }
            return load == null ? 0 : load.records;
        }
    }

    /** Letters in their order, up to a bound. */
    private static final class Row {
        private final Letter[] letters;
        int size;

        Row(int most) {
            letters = new Letter[Math.max(0, most)];
        }

        Letter at(int i) {
            return i >= 0 && i < size ? letters[i] : null;
        }

        boolean append(Letter letter) {
            if (size >= letters.length) {
                return false;
            }
            letters[size] = letter;
            size++;
            return true;
        }

        void removeAt(int i) {
            if (i < 0 || i >= size) {
                return;
            }
            for (int j = i + 1; j < size; j++) {
                letters[j - 1] = letters[j];
            }
            size--;
            letters[size] = null;
        }

        void clear() {
            for (int i = 0; i < size; i++) {
                letters[i] = null;
            }
            size = 0;
        }
    }

    /** What a server has of one bucket, or what a letter takes along of it. */
    private static final class Bucket {
        int status;
        int version;
        int hint;
        int records;
        final long[] values = new long[KEYS_OF_A_BUCKET];
        final int[] recordClients = new int[MOST_RECORDS];
        final int[] recordIncarnations = new int[MOST_RECORDS];
        final int[] recordNumbers = new int[MOST_RECORDS];
        final long[] recordResults = new long[MOST_RECORDS];
        final int[] incarnations = new int[CLIENTS];
        final int[] firsts = new int[CLIENTS];

        void copyFrom(Bucket other) {
            status = other.status;
            version = other.version;
            hint = other.hint;
            records = other.records;
            System.arraycopy(other.values, 0, values, 0, KEYS_OF_A_BUCKET);
            System.arraycopy(other.recordClients, 0, recordClients, 0, records);
            System.arraycopy(other.recordIncarnations, 0, recordIncarnations, 0, records);
            System.arraycopy(other.recordNumbers, 0, recordNumbers, 0, records);
            System.arraycopy(other.recordResults, 0, recordResults, 0, records);
            System.arraycopy(other.incarnations, 0, incarnations, 0, CLIENTS);
            System.arraycopy(other.firsts, 0, firsts, 0, CLIENTS);
        }

        void empty() {
            records = 0;
            Arrays.fill(values, 0L);
            Arrays.fill(incarnations, 0);
            Arrays.fill(firsts, 0);
        }

        boolean canLeaveFor(int to) {
            return status == OWNED || status == LEAVING && hint == to;
        }

        int firstOf(int client) {
            return client >= 0 && client < CLIENTS ? firsts[client] : 0;
        }

        /** KNOWN, from a request or an ack; tells whether anything changed. */
        boolean know(Letter told) {
            int client = told.from;
            if (client < 0 || client >= CLIENTS) {
                return false;
            }
            if (told.incarnation > incarnations[client]) {
                removeRecordsBelow(client, Integer.MAX_VALUE);
                incarnations[client] = told.incarnation;
                firsts[client] = told.first;
                return true;
            }
            if (told.incarnation == incarnations[client] && told.first > firsts[client]) {
                removeRecordsBelow(client, told.first);
                firsts[client] = told.first;
                return true;
            }
            return false;
        }

        private void removeRecordsBelow(int client, int number) {
            for (int i = records - 1; i >= 0; i--) {
                if (recordClients[i] == client && recordNumbers[i] < number) {
                    removeRecord(i);
                }
            }
        }

        void removeRecord(int i) {
            if (i < 0 || i >= records) {
                return;
            }
            for (int j = i + 1; j < records; j++) {
                recordClients[j - 1] = recordClients[j];
                recordIncarnations[j - 1] = recordIncarnations[j];
                recordNumbers[j - 1] = recordNumbers[j];
                recordResults[j - 1] = recordResults[j];
            }
            records--;
        }

        /** The place of the record of a request, or -1. */
        int find(Letter request) {
            for (int i = 0; i < records; i++) {
                if (recordClients[i] == request.from && recordIncarnations[i] == request.incarnation
                    && recordNumbers[i] == request.number) {
                    return i;
                }
            }
            return -1;
        }

        void addRecord(Letter request, long result) {
            if (records >= MOST_RECORDS) {
                return;
            }
            recordClients[records] = request.from;
            recordIncarnations[records] = request.incarnation;
            recordNumbers[records] = request.number;
            recordResults[records] = result;
            records++;
        }

        long doAct(Letter request) {
            int place = placeOf(request.key);
            if (place < 0 || place >= KEYS_OF_A_BUCKET) {
                return 0;
            }
            long before = values[place];
            switch (request.act) {
                case PUT:
                    values[place] = request.a;
                    return before;
                case ADD:
                    values[place] = before + request.a;
                    return values[place];
                case TAKE:
                    if (before != request.a) {
                        return 0;
                    }
                    values[place] = request.b;
                    return 1;
                default:
                    values[place] = before * request.a;
                    return values[place];
            }
        }
    }

    private static final class Server {
        final int index;
        final Row held = new Row(MOST_HELD);
        private final Bucket[] memory = new Bucket[BUCKETS];
        private final Bucket[] kept = new Bucket[BUCKETS];
        boolean up = true;
        boolean clean = true;

        Server(int index, int serverCount) {
            this.index = index;
            int divisor = Math.max(1, serverCount);
            for (int b = 0; b < BUCKETS; b++) {
                Bucket bucket = new Bucket();
                bucket.hint = b % divisor;
                bucket.status = bucket.hint == index ? OWNED : NOT_HERE;
                bucket.version = bucket.hint == index ? 1 : 0;
                memory[b] = bucket;
                kept[b] = new Bucket();
                kept[b].copyFrom(bucket);
            }
        }

        Bucket bucketAt(int bucket) {
            return bucket >= 0 && bucket < BUCKETS ? memory[bucket] : null;
        }

        void keep() {
            for (int b = 0; b < BUCKETS; b++) {
                kept[b].copyFrom(memory[b]);
            }
            clean = true;
        }

        void restore() {
            for (int b = 0; b < BUCKETS; b++) {
                memory[b].copyFrom(kept[b]);
            }
            clean = true;
        }

        int recordsInAll() {
            int all = 0;
            for (int b = 0; b < BUCKETS; b++) {
                all += memory[b].records;
            }
            return all;
        }
    }

    private static final class Client {
        final int index;
        int incarnation;
        int leaseEnd;
        /** How many calls the incarnation had; the rows below are used from 1, the first number. */
        int calls;
        final int[] guesses = new int[BUCKETS];
        final int[] keys = new int[MOST_CALLS + 1];
        final int[] acts = new int[MOST_CALLS + 1];
        final long[] as = new long[MOST_CALLS + 1];
        final long[] bs = new long[MOST_CALLS + 1];
        final int[] states = new int[MOST_CALLS + 1];
        final long[] results = new long[MOST_CALLS + 1];

        Client(int index, int serverCount) {
            this.index = index;
            int divisor = Math.max(1, serverCount);
            for (int b = 0; b < BUCKETS; b++) {
                guesses[b] = b % divisor;
            }
        }

        boolean hasCall(int number) {
            return number >= 1 && number <= calls;
        }

        int newCall(int key, int act, long a, long b) {
            if (calls >= MOST_CALLS) {
                return FULL;
            }
            calls++;
            keys[calls] = key;
            acts[calls] = act;
            as[calls] = a;
            bs[calls] = b;
            states[calls] = WAITS;
            results[calls] = 0;
            return calls;
        }

        int first() {
            for (int n = 1; n <= calls; n++) {
                if (states[n] == WAITS) {
                    return n;
                }
            }
            return calls + 1;
        }

        int waiting() {
            int waiting = 0;
            for (int n = 1; n <= calls; n++) {
                if (states[n] == WAITS) {
                    waiting++;
                }
            }
            return waiting;
        }

        void refuseWaiting() {
            for (int n = 1; n <= calls; n++) {
                if (states[n] == WAITS) {
                    states[n] = REFUSED;
                }
            }
        }
    }
}
