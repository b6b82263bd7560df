import java.util.Map;
import java.util.Random;
import java.util.TreeMap;

/** Long random runs, the same at every start, of the program and of {@link Model}: all answers must be the same. */
public final class ModelTest {
    private static final Due DUE = new Due("ModelTest");
    private static final int RUNS = 600;
    private static final int CALLS = 512;
    private static final String[] WAYS = {
        "answer 0", "answer 1", "answer 2", "answer 3", "answer to a call that does not wait",
        "answer to an old incarnation", "ack STATE", "call FULL, 4 wait", "call FULL, 60", "call STATE", "collect",
        "collect 0", "collect STATE", "collect at a bucket that leaves", "crash", "crash STATE",
        "crash with held letters", "held 2", "held 3", "held 4", "known: an older incarnation", "known: nothing new",
        "known: records below FIRST go", "known: records of an older incarnation go", "lost as it is sent",
        "lost at a server 1", "lost at a server 3", "lost at a server 4", "lost at a server 5", "move", "move STATE",
        "move STATE, leaving to another", "move anew", "move comes late", "move comes where it is 0",
        "move comes where it is 2", "open", "open anew", "renew", "renew STATE", "request: 12 records",
        "request: below FIRST", "request: effect 0", "request: effect 1", "request: effect 2", "request: effect 3",
        "request: leaving", "request: not here", "request: not live", "request: there is a record", "retry",
        "retry 0", "sent at once 2", "sent at once 3", "sent at once 4", "start STATE", "sync", "sync STATE", "taken",
        "taken comes where it is 0", "taken comes where it is 1", "taken comes with another version", "twin 1",
        "twin 2", "twin 3", "twin 4", "twin 5", "twin FULL"};

    private final Random random;
    private final OnceCalls x;
    private final Model model;
    private final int servers;
    /** How many clients and buckets a run keeps to: few of them make records and moves meet. */
    private final int clients;
    private final int buckets;
    private final int[] weights = new int[15];
    private final boolean wild;
    private String step = "";

    private ModelTest(int run) {
        random = new Random(run * 7919L + 17);
        int[] leases = {1, 3, 10, 50, 200, 1000, 0};
        int askedServers = 1 + random.nextInt(5);
        int askedLease = leases[random.nextInt(leases.length)];
        x = new OnceCalls(askedServers, askedLease);
        model = new Model(askedServers, askedLease);
        servers = model.hosts.size();
        boolean busy = run % 5 == 1;
        clients = busy ? 1 : 1 + random.nextInt(6);
        buckets = 1 + random.nextInt(random.nextBoolean() ? 2 : 8);
        wild = random.nextInt(4) == 0;
        int[] usual = {2, 2, 30, 12, 6, 80, 3, 8, 25, 1, 3, 8, 2, 3, 2};
        for (int i = 0; i < usual.length; i++) {
            weights[i] = usual[i] * (1 + random.nextInt(4));
        }
        if (run % 10 == 0) {
            weights[7] = 2000;
        }
        if (busy) {
            // One client that is never opened anew, with little in its way, comes to its sixtieth call.
            int[] easy = {0, 9, 60, 9, 3, 200, 1, 3, 90, 0, 3, 1, 0, 1, 2};
            System.arraycopy(easy, 0, weights, 0, easy.length);
        }
    }

    public static void main(String[] args) {
        Map<String, Integer> ways = new TreeMap<>();
        for (int run = 0; run < RUNS && !DUE.anyWrong(); run++) {
            ModelTest test = new ModelTest(run);
            test.play(run);
            test.model.ways.forEach((name, times) -> ways.merge(name, times, Integer::sum));
        }
        for (String name : WAYS) {
            DUE.is("was gone: " + name, ways.getOrDefault(name, 0) > 0 ? 1 : 0, 1);
        }
        DUE.end();
    }

    private void play(int run) {
        for (int i = 0; i < clients; i++) {
            if (random.nextInt(8) > 0) {
                same("open", x.open(i), model.open(i));
            }
        }
        for (int n = clients; n < CALLS && !DUE.anyWrong(); n++) {
            step = "run " + run + ", call " + n + ": ";
            act();
            if (n % 16 == 0 || n == CALLS - 1) {
                compareAll();
            }
        }
    }

    private void same(String what, long got, long want) {
        DUE.is(step + what, got, want);
    }

    private int odd(int usual) {
        if (!wild || random.nextInt(12) > 0) {
            return usual;
        }
        int[] odd = {-1, Integer.MIN_VALUE, Integer.MAX_VALUE, usual + 1, usual - 1, random.nextInt(40), 400};
        return odd[random.nextInt(odd.length)];
    }

    private int client() {
        return odd(random.nextInt(clients));
    }

    private int server() {
        return odd(random.nextInt(servers));
    }

    private int bucket() {
        return odd(random.nextInt(buckets));
    }

    private int letter() {
        int size = Math.max(1, model.row.size());
        return odd(random.nextInt(3) == 0 ? 0 : random.nextInt(size));
    }

    private long number() {
        return random.nextInt(6) == 0 ? random.nextLong() : random.nextInt(4);
    }

    private int kindOfCall() {
        int sum = 0;
        for (int w : weights) {
            sum += w;
        }
        int left = random.nextInt(sum);
        int kind = 0;
        while (left >= weights[kind]) {
            left -= weights[kind];
            kind++;
        }
        return kind;
    }

    private void act() {
        int c = client();
        int s = server();
        int b = bucket();
        int i = letter();
        switch (kindOfCall()) {
            case 0 -> same("open(" + c + ")", x.open(c), model.open(c));
            case 1 -> same("renew(" + c + ")", x.renew(c), model.renew(c));
            case 2 -> {
                int key = odd(random.nextInt(buckets) + 8 * random.nextInt(4));
                int act = odd(random.nextInt(4));
                long a = number();
                long d = number();
                same("call(" + c + ", " + key + ", " + act + ", " + a + ", " + d + ")",
                    x.call(c, key, act, a, d), model.call(c, key, act, a, d));
            }
            case 3 -> {
                int calls = Math.max(1, model.client(c, 3));
                int number = odd(Math.max(1, calls - random.nextInt(5)));
                same("retry(" + c + ", " + number + ")", x.retry(c, number), model.retry(c, number));
            }
            case 4 -> same("ack(" + c + ", " + s + ")", x.ack(c, s), model.ack(c, s));
            case 5 -> same("deliver(" + i + ")", x.deliver(i), model.deliver(i));
            case 6 -> same("drop(" + i + ")", x.drop(i), model.drop(i));
            case 7 -> same("twin(" + i + ")", x.twin(i), model.twin(i));
            case 8 -> same("sync(" + s + ")", x.sync(s), model.sync(s));
            case 9 -> same("crash(" + s + ")", x.crash(s), model.crash(s));
            case 10 -> same("start(" + s + ")", x.start(s), model.start(s));
            case 11 -> {
                int to = server();
                same("move(" + s + ", " + b + ", " + to + ")", x.move(s, b, to), model.move(s, b, to));
            }
            case 12 -> {
                int n = odd(random.nextInt(4));
                same("ticks(" + n + ")", x.ticks(n), model.ticks(n));
            }
            case 13 -> same("collect(" + s + ")", x.collect(s), model.collect(s));
            default -> lookSomewhere(s, b, i, c);
        }
    }

    private void lookSomewhere(int s, int b, int i, int c) {
        int what = odd(random.nextInt(28));
        same("server", x.server(s, what), model.server(s, what));
        same("bucket", x.bucket(s, b, what), model.bucket(s, b, what));
        same("value", x.value(s, what), model.value(s, what));
        same("record", x.record(s, b, i, what), model.record(s, b, i, what));
        same("client", x.client(c, what), model.client(c, what));
        same("state", x.state(c, what), model.state(c, what));
        same("result", x.result(c, what), model.result(c, what));
        same("letter", x.letter(i, what), model.letter(i, what));
        same("count", x.count(what), model.count(what));
    }

    private void compareAll() {
        for (int what = -1; what <= 5; what++) {
            same("count " + what, x.count(what), model.count(what));
        }
        for (int s = 0; s < servers; s++) {
            compareServer(s);
        }
        for (int c = 0; c < 6; c++) {
            for (int what = 0; what < 19; what++) {
                same("client " + c + " " + what, x.client(c, what), model.client(c, what));
            }
            for (int n = 0; n <= 61; n++) {
                same("state " + c + " " + n, x.state(c, n), model.state(c, n));
                same("result " + c + " " + n, x.result(c, n), model.result(c, n));
            }
        }
        for (int i = 0; i <= model.row.size(); i++) {
            for (int what = 0; what <= 5; what++) {
                same("letter " + i + " " + what, x.letter(i, what), model.letter(i, what));
            }
        }
    }

    private void compareServer(int s) {
        for (int what = 0; what <= 4; what++) {
            same("server " + s + " " + what, x.server(s, what), model.server(s, what));
        }
        for (int key = 0; key < 32; key++) {
            same("value " + s + " " + key, x.value(s, key), model.value(s, key));
        }
        for (int b = 0; b < 8; b++) {
            for (int what = 0; what < 27; what++) {
                same("bucket " + s + " " + b + " " + what, x.bucket(s, b, what), model.bucket(s, b, what));
            }
            for (int i = 0; i <= 12; i++) {
                for (int what = 0; what < 3; what++) {
                    same("record " + s + " " + b + " " + i, x.record(s, b, i, what), model.record(s, b, i, what));
                }
            }
        }
    }
}
