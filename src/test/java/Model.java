import java.util.ArrayList;
import java.util.List;
import java.util.Map;
import java.util.TreeMap;

/**
 * The document written a second time, in other words than the program: state is copied whole, nothing is made in
 * advance, and each way that the document tells is counted in {@link #ways}, so that a test can see which were gone.
 */
final class Model {
    record Told(int client, int incarnation, int first) { }

    record Answered(int client, int incarnation, int number, long result) { }

    record Asked(int number, int key, int act, long a, long b) { }

    record Post(int kind, int to, int from, Told told, Asked asked, int code, long result, int version, int bucket,
        Place place) { }

    /** A bucket at a server. */
    static final class Place {
        int status;
        int version;
        int hint;
        Map<Integer, Long> values = new TreeMap<>();
        List<Answered> records = new ArrayList<>();
        Map<Integer, Told> told = new TreeMap<>();

        Place copy() {
            Place p = new Place();
            p.status = status;
            p.version = version;
            p.hint = hint;
            p.values = new TreeMap<>(values);
            p.records = new ArrayList<>(records);
            p.told = new TreeMap<>(told);
            return p;
        }

        Told toldBy(int client) {
            return told.getOrDefault(client, new Told(client, 0, 0));
        }
    }

    static final class Host {
        boolean up = true;
        boolean clean = true;
        List<Place> memory = new ArrayList<>();
        List<Place> kept = new ArrayList<>();
        List<Post> held = new ArrayList<>();

        List<Place> shown() {
            return up ? memory : kept;
        }
    }

    static final class Caller {
        int incarnation;
        int until;
        List<Asked> calls = new ArrayList<>();
        Map<Integer, Long> results = new TreeMap<>();
        Map<Integer, Boolean> refused = new TreeMap<>();
        int[] guess = new int[8];

        boolean waits(int number) {
            return !results.containsKey(number) && !refused.containsKey(number);
        }

        int waiting() {
            return calls.size() - results.size() - refused.size();
        }

        int first() {
            int n = 1;
            while (n <= calls.size() && !waits(n)) {
                n++;
            }
            return n;
        }

        boolean has(int number) {
            return number >= 1 && number <= calls.size();
        }
    }

    final List<Host> hosts = new ArrayList<>();
    final List<Caller> callers = new ArrayList<>();
    final List<Post> row = new ArrayList<>();
    final Map<String, Integer> ways = new TreeMap<>();
    final int lease;
    int time;
    int opened;
    int lost;
    int effects;
    int done;

    Model(int servers, int lease) {
        int count = servers < 2 || servers > 4 ? 3 : servers;
        this.lease = lease < 1 || lease > 1000 ? 50 : lease;
        for (int s = 0; s < count; s++) {
            Host host = new Host();
            for (int b = 0; b < 8; b++) {
                Place place = new Place();
                place.hint = b % count;
                place.status = place.version = b % count == s ? 1 : 0;
                host.memory.add(place);
                host.kept.add(place.copy());
            }
            hosts.add(host);
        }
        for (int c = 0; c < 6; c++) {
            Caller caller = new Caller();
            for (int b = 0; b < 8; b++) {
                caller.guess[b] = b % count;
            }
            callers.add(caller);
        }
    }

    private int way(String name, int answer) {
        ways.merge(name, 1, Integer::sum);
        return answer;
    }

    private void way(String name) {
        ways.merge(name, 1, Integer::sum);
    }

    private boolean noClient(int c) {
        return c < 0 || c >= 6;
    }

    private boolean noServer(int s) {
        return s < 0 || s >= hosts.size();
    }

    private boolean live(int client, int incarnation) {
        Caller c = callers.get(client);
        return c.incarnation > 0 && c.incarnation == incarnation && c.until >= time;
    }

    private void post(Post post) {
        if (row.size() == 400) {
            way("lost as it is sent");
            lost++;
        } else {
            row.add(post);
        }
    }

    private void postFrom(int server, Post post) {
        Host host = hosts.get(server);
        if (host.clean) {
            way("sent at once " + post.kind);
            post(post);
        } else {
            way("held " + post.kind);
            host.held.add(post);
        }
    }

    int open(int client) {
        if (noClient(client)) {
            return -1;
        }
        Caller c = callers.get(client);
        way(c.incarnation == 0 ? "open" : "open anew");
        c.incarnation = ++opened;
        c.until = time + lease;
        c.calls.clear();
        c.results.clear();
        c.refused.clear();
        return opened;
    }

    int renew(int client) {
        if (noClient(client)) {
            return -1;
        }
        Caller c = callers.get(client);
        if (!live(client, c.incarnation)) {
            return way("renew STATE", -3);
        }
        c.until = time + lease;
        return way("renew", c.until);
    }

    int call(int client, int key, int act, long a, long b) {
        if (noClient(client) || key < 0 || key > 31 || act < 0 || act > 3) {
            return -1;
        }
        Caller c = callers.get(client);
        if (c.incarnation == 0) {
            return way("call STATE", -3);
        }
        if (c.waiting() == 4) {
            return way("call FULL, 4 wait", -2);
        }
        if (c.calls.size() == 60) {
            return way("call FULL, 60", -2);
        }
        c.calls.add(new Asked(c.calls.size() + 1, key, act, a, b));
        request(client, c.calls.size());
        return c.calls.size();
    }

    private void request(int client, int number) {
        Caller c = callers.get(client);
        Asked asked = c.calls.get(number - 1);
        post(new Post(1, c.guess[asked.key % 8], client, new Told(client, c.incarnation, c.first()), asked,
            0, 0, 0, 0, null));
    }

    int retry(int client, int number) {
        if (noClient(client) || !callers.get(client).has(number)) {
            return -1;
        }
        if (!callers.get(client).waits(number)) {
            return way("retry 0", 0);
        }
        request(client, number);
        return way("retry", 1);
    }

    int ack(int client, int server) {
        if (noClient(client) || noServer(server)) {
            return -1;
        }
        Caller c = callers.get(client);
        if (c.incarnation == 0) {
            return way("ack STATE", -3);
        }
        post(new Post(5, server, client, new Told(client, c.incarnation, c.first()), null, 0, 0, 0, 0, null));
        return c.first();
    }

    int deliver(int i) {
        if (i < 0 || i >= row.size()) {
            return -1;
        }
        Post post = row.remove(i);
        if (post.kind == 2) {
            answerComes(post);
            return 2;
        }
        if (!hosts.get(post.to).up) {
            lost++;
            return way("lost at a server " + post.kind, post.kind + 10);
        }
        switch (post.kind) {
            case 1 -> requestComes(post);
            case 3 -> moveComes(post);
            case 4 -> takenComes(post);
            default -> ackComes(post);
        }
        return post.kind;
    }

    private void answerComes(Post post) {
        Caller c = callers.get(post.to);
        int number = post.asked.number;
        if (c.incarnation != post.told.incarnation) {
            way("answer to an old incarnation");
            return;
        }
        if (!c.waits(number)) {
            way("answer to a call that does not wait");
            return;
        }
        way("answer " + post.code);
        if (post.code == 0) {
            c.results.put(number, post.result);
            done++;
        } else if (post.code == 1) {
            c.guess[c.calls.get(number - 1).key % 8] = (int) post.result;
        } else if (post.code == 3) {
            for (Asked asked : c.calls) {
                if (c.waits(asked.number)) {
                    c.refused.put(asked.number, true);
                }
            }
        }
    }

    private void requestComes(Post post) {
        int server = post.to;
        Told told = post.told;
        Place place = hosts.get(server).memory.get(post.asked.key % 8);
        if (!live(told.client, told.incarnation)) {
            reply(post, 3, 0, "not live");
            return;
        }
        if (place.status != 1) {
            reply(post, place.status == 2 ? 2 : 1, place.status == 2 ? 0 : place.hint,
                place.status == 2 ? "leaving" : "not here");
            return;
        }
        known(server, place, told);
        if (post.asked.number < place.toldBy(told.client).first) {
            reply(post, 4, 0, "below FIRST");
            return;
        }
        for (Answered r : place.records) {
            if (r.client == told.client && r.incarnation == told.incarnation && r.number == post.asked.number) {
                reply(post, 0, r.result, "there is a record");
                return;
            }
        }
        if (place.records.size() == 12) {
            reply(post, 2, 0, "12 records");
            return;
        }
        long result = effect(place, post.asked);
        place.records.add(new Answered(told.client, told.incarnation, post.asked.number, result));
        hosts.get(server).clean = false;
        effects++;
        reply(post, 0, result, "effect " + post.asked.act);
    }

    private long effect(Place place, Asked asked) {
        long was = place.values.getOrDefault(asked.key, 0L);
        long then = switch (asked.act) {
            case 0 -> asked.a;
            case 1 -> was + asked.a;
            case 2 -> was == asked.a ? asked.b : was;
            default -> was * asked.a;
        };
        place.values.put(asked.key, then);
        return switch (asked.act) {
            case 0 -> was;
            case 2 -> was == asked.a ? 1 : 0;
            default -> then;
        };
    }

    private void reply(Post post, int code, long result, String why) {
        way("request: " + why);
        postFrom(post.to, new Post(2, post.from, post.to, post.told, post.asked, code, result, 0, 0, null));
    }

    private void known(int server, Place place, Told told) {
        Told there = place.toldBy(told.client);
        if (told.incarnation < there.incarnation) {
            way("known: an older incarnation");
            return;
        }
        if (told.incarnation == there.incarnation && told.first <= there.first) {
            way("known: nothing new");
            return;
        }
        boolean anew = told.incarnation > there.incarnation;
        if (place.records.removeIf(r -> r.client == told.client && (anew || r.number < told.first))) {
            way(anew ? "known: records of an older incarnation go" : "known: records below FIRST go");
        }
        place.told.put(told.client, told);
        hosts.get(server).clean = false;
    }

    private void moveComes(Post post) {
        Place place = hosts.get(post.to).memory.get(post.bucket);
        if (post.version > place.version) {
            way("move comes where it is " + place.status);
            Place come = post.place.copy();
            come.status = 1;
            come.version = post.version;
            come.hint = post.to;
            hosts.get(post.to).memory.set(post.bucket, come);
            hosts.get(post.to).clean = false;
        } else {
            way("move comes late");
        }
        postFrom(post.to, new Post(4, post.from, post.to, null, null, 0, 0, post.version, post.bucket, null));
    }

    private void takenComes(Post post) {
        Place place = hosts.get(post.to).memory.get(post.bucket);
        if (place.status != 2) {
            way("taken comes where it is " + place.status);
        } else if (place.version != post.version - 1) {
            way("taken comes with another version");
        } else {
            way("taken");
            Place gone = new Place();
            gone.version = post.version;
            gone.hint = place.hint;
            hosts.get(post.to).memory.set(post.bucket, gone);
            hosts.get(post.to).clean = false;
        }
    }

    private void ackComes(Post post) {
        for (Place place : hosts.get(post.to).memory) {
            if (place.status == 1) {
                known(post.to, place, post.told);
            }
        }
    }

    int drop(int i) {
        if (i < 0 || i >= row.size()) {
            return -1;
        }
        lost++;
        return row.remove(i).kind;
    }

    int twin(int i) {
        if (i < 0 || i >= row.size()) {
            return -1;
        }
        if (row.size() == 400) {
            return way("twin FULL", -2);
        }
        row.add(row.get(i));
        return way("twin " + row.get(i).kind, row.get(i).kind);
    }

    int sync(int server) {
        if (noServer(server)) {
            return -1;
        }
        Host host = hosts.get(server);
        if (!host.up) {
            return way("sync STATE", -3);
        }
        host.kept = copies(host.memory);
        host.clean = true;
        List<Post> held = host.held;
        host.held = new ArrayList<>();
        held.forEach(this::post);
        return way("sync", held.size());
    }

    private static List<Place> copies(List<Place> places) {
        List<Place> copies = new ArrayList<>();
        places.forEach(p -> copies.add(p.copy()));
        return copies;
    }

    int crash(int server) {
        if (noServer(server)) {
            return -1;
        }
        Host host = hosts.get(server);
        if (!host.up) {
            return way("crash STATE", -3);
        }
        int held = host.held.size();
        lost += held;
        host.held.clear();
        host.up = false;
        host.memory = null;
        return way(held > 0 ? "crash with held letters" : "crash", held);
    }

    int start(int server) {
        if (noServer(server)) {
            return -1;
        }
        Host host = hosts.get(server);
        if (host.up) {
            return way("start STATE", -3);
        }
        host.up = true;
        host.clean = true;
        host.memory = copies(host.kept);
        return 1;
    }

    int move(int server, int bucket, int to) {
        if (noServer(server) || noServer(to) || bucket < 0 || bucket > 7) {
            return -1;
        }
        Host host = hosts.get(server);
        if (!host.up || server == to || host.memory.get(bucket).status == 0) {
            return way("move STATE", -3);
        }
        Place place = host.memory.get(bucket);
        if (place.status == 2 && place.hint != to) {
            return way("move STATE, leaving to another", -3);
        }
        if (place.status == 1) {
            way("move");
            place.status = 2;
            place.hint = to;
            host.clean = false;
        } else {
            way("move anew");
        }
        postFrom(server, new Post(3, to, server, null, null, 0, 0, place.version + 1, bucket, place.copy()));
        return place.version + 1;
    }

    int collect(int server) {
        if (noServer(server)) {
            return -1;
        }
        Host host = hosts.get(server);
        if (!host.up) {
            return way("collect STATE", -3);
        }
        int gone = 0;
        for (Place place : host.memory) {
            int before = place.records.size();
            if (place.status == 1) {
                place.records.removeIf(r -> !live(r.client, r.incarnation));
            } else if (before > 0) {
                way("collect at a bucket that leaves");
            }
            gone += before - place.records.size();
        }
        host.clean = host.clean && gone == 0;
        return way(gone > 0 ? "collect" : "collect 0", gone);
    }

    int ticks(int n) {
        if (n < 0 || n > 1000) {
            return -1;
        }
        time += n;
        return time;
    }

    int server(int server, int what) {
        if (noServer(server) || what < 0 || what > 3) {
            return -1;
        }
        Host host = hosts.get(server);
        if (!host.up) {
            return 0;
        }
        return switch (what) {
            case 0 -> 1;
            case 1 -> host.clean ? 1 : 0;
            case 2 -> host.held.size();
            default -> host.memory.stream().mapToInt(p -> p.records.size()).sum();
        };
    }

    int bucket(int server, int bucket, int what) {
        if (noServer(server) || bucket < 0 || bucket > 7) {
            return -1;
        }
        Place place = hosts.get(server).shown().get(bucket);
        return switch (what) {
            case 0 -> place.status;
            case 1 -> place.version;
            case 2 -> place.hint;
            case 3 -> place.records.size();
            case 10, 11, 12, 13, 14, 15 -> place.toldBy(what - 10).incarnation;
            case 20, 21, 22, 23, 24, 25 -> place.toldBy(what - 20).first;
            default -> -1;
        };
    }

    long value(int server, int key) {
        if (noServer(server) || key < 0 || key > 31) {
            return 0;
        }
        return hosts.get(server).shown().get(key % 8).values.getOrDefault(key, 0L);
    }

    int record(int server, int bucket, int i, int what) {
        if (noServer(server) || bucket < 0 || bucket > 7 || i < 0 || what < 0 || what > 2) {
            return -1;
        }
        List<Answered> records = hosts.get(server).shown().get(bucket).records;
        if (i >= records.size()) {
            return -1;
        }
        Answered r = records.get(i);
        return what == 0 ? r.client : what == 1 ? r.incarnation : r.number;
    }

    int client(int client, int what) {
        if (noClient(client)) {
            return -1;
        }
        Caller c = callers.get(client);
        return switch (what) {
            case 0 -> c.incarnation;
            case 1 -> c.until;
            case 2 -> live(client, c.incarnation) ? 1 : 0;
            case 3 -> c.calls.size();
            case 4 -> c.first();
            case 5 -> c.waiting();
            case 10, 11, 12, 13, 14, 15, 16, 17 -> c.guess[what - 10];
            default -> -1;
        };
    }

    int state(int client, int number) {
        if (noClient(client) || !callers.get(client).has(number)) {
            return -1;
        }
        Caller c = callers.get(client);
        return c.waits(number) ? 0 : c.refused.containsKey(number) ? 2 : 1;
    }

    long result(int client, int number) {
        return noClient(client) ? 0 : callers.get(client).results.getOrDefault(number, 0L);
    }

    int letter(int i, int what) {
        if (i < 0 || i >= row.size() || what < 0 || what > 5) {
            return -1;
        }
        Post p = row.get(i);
        int[] parts = switch (p.kind) {
            case 1 -> new int[] {p.told.incarnation, p.asked.number, p.told.first};
            case 2 -> new int[] {p.told.incarnation, p.asked.number, p.code};
            case 3 -> new int[] {p.version, p.bucket, p.place.records.size()};
            case 4 -> new int[] {p.version, p.bucket, 0};
            default -> new int[] {p.told.incarnation, p.told.first, 0};
        };
        return what == 0 ? p.kind : what == 1 ? p.to : what == 2 ? p.from : parts[what - 3];
    }

    int count(int what) {
        return switch (what) {
            case 0 -> row.size();
            case 1 -> lost;
            case 2 -> effects;
            case 3 -> done;
            case 4 -> time;
            default -> -1;
        };
    }
}
