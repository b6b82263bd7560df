/** The edges that the first paragraphs of 'Terms' name, and the promise of 512 calls. */
public final class TermsEdgesTest {
    private static final int NONE = -1, STATE = -3;
    private static final int[] FAR = {Integer.MIN_VALUE, -2, -1, Integer.MAX_VALUE};

    public static void main(String[] args) {
        Edges.run(TermsEdgesTest.class);
    }

    @Holds("The public face: NONE = -1, FULL = -2, STATE = -3")
    static void constants(Due due) {
        due.is("NONE", OnceCalls.NONE, -1);
        due.is("FULL", OnceCalls.FULL, -2);
        due.is("STATE", OnceCalls.STATE, -3);
    }

    @Holds("What it is: An object is used for at most 512 calls after it has been made")
    static void the512thCallStillCounts(Due due) {
        OnceCalls x = Steps.opened(2, 1000, 0);
        for (int n = 2; n < 512; n++) {
            x.ticks(n == 2 ? 999 : 0);
        }
        due.is("call 512", x.call(0, 31, 0, 1L, 0L), 1);
        OnceCalls y = new OnceCalls(2, 1);
        for (int n = 1; n < 512; n++) {
            y.ticks(1000);
        }
        due.is("the time at call 512", y.ticks(1000), 512000);
    }

    @Holds("Terms: CLIENTS 0 .. 5")
    static void clients(Due due) {
        OnceCalls x = new OnceCalls(2, 10);
        due.is("open(0)", x.open(0), 1);
        due.is("open(5)", x.open(5), 2);
        due.is("open(6)", x.open(6), NONE);
        for (int client : FAR) {
            due.is("open(" + client + ")", x.open(client), NONE);
        }
    }

    @Holds("Terms: SERVERS 0 .. S - 1 (2 .. 4)")
    static void servers(Due due) {
        for (int servers = 2; servers <= 4; servers++) {
            OnceCalls x = new OnceCalls(servers, 10);
            due.is("the first of " + servers, x.server(0, 0), 1);
            due.is("the last of " + servers, x.server(servers - 1, 0), 1);
            due.is("one behind the last of " + servers, x.server(servers, 0), NONE);
            for (int server : FAR) {
                due.is("server(" + server + ", 0) of " + servers, x.server(server, 0), NONE);
            }
        }
    }

    @Holds("Terms: KEYS 0 .. 31")
    static void keys(Due due) {
        OnceCalls x = Steps.opened(2, 10, 0);
        due.is("key 0", x.call(0, 0, 0, 1L, 0L), 1);
        due.is("key 31", x.call(0, 31, 0, 1L, 0L), 2);
        due.is("key 32", x.call(0, 32, 0, 1L, 0L), NONE);
        for (int key : FAR) {
            due.is("key " + key, x.call(0, key, 0, 1L, 0L), NONE);
        }
    }

    @Holds("Terms: with VALUES (longs, 0 at first)")
    static void values(Due due) {
        OnceCalls x = Steps.opened(4, 10, 0);
        for (int server = 0; server < 4; server++) {
            for (int key = 0; key < 32; key++) {
                due.is("value(" + server + ", " + key + ")", x.value(server, key), 0);
            }
        }
        Steps.finish(x, 0, 0, 0, Long.MIN_VALUE, 0L);
        Steps.finish(x, 0, 31, 0, Long.MAX_VALUE, 0L);
        due.is("the least long", x.value(0, 0), Long.MIN_VALUE);
        due.is("the greatest long", x.value(3, 31), Long.MAX_VALUE);
    }

    @Holds("Terms: BUCKETS 0 .. 7: key % 8")
    static void bucketsOfKeys(Due due) {
        int[] keys = {0, 7, 8, 15, 16, 23, 24, 31};
        for (int key : keys) {
            OnceCalls x = Steps.opened(4, 10, 0);
            Steps.ask(x, 0, key, 0, 1000L + key, 0L);
            for (int bucket = 0; bucket < 8; bucket++) {
                due.is("records in " + bucket + " after key " + key, x.bucket(bucket % 4, bucket, 3),
                    bucket == key % 8 ? 1 : 0);
            }
            for (int other = 0; other < 32; other++) {
                due.is("value of " + other + " after key " + key, x.value(key % 4, other),
                    other == key ? 1000 + key : 0);
            }
        }
    }

    @Holds("Terms: TIME is 0 at first")
    static void timeAtFirst(Due due) {
        OnceCalls x = new OnceCalls(2, 10);
        due.is("count(4)", x.count(4), 0);
        due.is("ticks(0)", x.ticks(0), 0);
    }

    @Holds("Terms: LETTERS are in a row, in the order in which they were sent")
    static void orderOfLetters(Due due) {
        OnceCalls x = Steps.opened(2, 100, 0, 1);
        x.ack(1, 0);
        x.call(0, 1, 0, 1L, 0L);
        x.move(0, 0, 1);
        x.sync(0);
        x.ack(0, 1);
        int[] kinds = {5, 1, 3, 5};
        for (int i = 0; i < kinds.length; i++) {
            due.is("kind of letter " + i, x.letter(i, 0), kinds[i]);
        }
        x.drop(1);
        due.is("the next comes up", x.letter(1, 0), 3);
        due.is("the last", x.letter(2, 0), 5);
        due.is("none behind it", x.letter(3, 0), NONE);
    }

    private static OnceCalls with399Letters() {
        OnceCalls x = Steps.opened(2, 100, 0);
        x.call(0, 0, 1, 5L, 0L);
        Steps.fillRow(x);
        x.drop(399);
        return x;
    }

    @Holds("Terms: (400 at most; one more is lost as it is sent): the request of a call")
    static void calledInAFullRow(Due due) {
        OnceCalls x = with399Letters();
        due.is("the call whose letter is the last that has room", x.call(0, 1, 1, 1L, 0L), 2);
        due.is("400 letters", x.count(0), 400);
        due.is("lost are", x.count(1), 1);
        due.is("the call whose letter is lost", x.call(0, 1, 1, 1L, 0L), 3);
        due.is("letters still", x.count(0), 400);
        due.is("lost are then", x.count(1), 2);
        due.is("the last is that of call", x.letter(399, 4), 2);
        due.is("there is none behind it", x.letter(400, 0), NONE);
        due.is("the call waits all the same", x.state(0, 3), 0);
    }

    @Holds("Terms: (400 at most; one more is lost as it is sent): the request of a retry")
    static void retriedInAFullRow(Due due) {
        OnceCalls x = with399Letters();
        due.is("the retry that has room", x.retry(0, 1), 1);
        due.is("lost are", x.count(1), 1);
        due.is("the retry that is lost", x.retry(0, 1), 1);
        due.is("letters", x.count(0), 400);
        due.is("lost are then", x.count(1), 2);
    }

    @Holds("Terms: (400 at most; one more is lost as it is sent): an ack")
    static void ackedInAFullRow(Due due) {
        OnceCalls x = with399Letters();
        due.is("the ack that has room", x.ack(0, 0), 1);
        due.is("lost are", x.count(1), 1);
        due.is("the ack that is lost tells its FIRST", x.ack(0, 1), 1);
        due.is("letters", x.count(0), 400);
        due.is("lost are then", x.count(1), 2);
        due.is("the last is for server", x.letter(399, 1), 0);
    }

    @Holds("Terms: (400 at most; one more is lost as it is sent): a move of a clean server")
    static void movedInAFullRow(Due due) {
        OnceCalls x = with399Letters();
        x.move(0, 0, 1);
        due.is("held", x.sync(0), 1);
        due.is("it has room", x.count(0), 400);
        due.is("the version that goes, and is lost", x.move(0, 0, 1), 2);
        due.is("letters", x.count(0), 400);
        due.is("lost are", x.count(1), 2);
        due.is("none is held", x.server(0, 2), 0);
    }

    @Holds("Terms: (400 at most; one more is lost as it is sent): what goes at a sync")
    static void syncedInAFullRow(Due due) {
        OnceCalls x = with399Letters();
        x.move(1, 1, 0);
        x.move(1, 3, 0);
        x.move(1, 5, 0);
        due.is("held are", x.sync(1), 3);
        due.is("one has room", x.count(0), 400);
        due.is("the first of them", x.letter(399, 4), 1);
        due.is("two are lost", x.count(1), 1 + 2);
        due.is("none is held any more", x.server(1, 2), 0);
        due.is("the next sync has none", x.sync(1), 0);
    }

    @Holds("Terms: (400 at most): a letter that came makes room for its answer")
    static void answeredInAFullRow(Due due) {
        OnceCalls x = with399Letters();
        x.crash(1);
        x.start(1);
        x.move(1, 1, 0);
        x.sync(1);
        x.retry(0, 1);
        x.ticks(101);
        due.is("letters before", x.count(0), 400);
        due.is("a request comes to a clean server", x.deliver(0), 1);
        due.is("letters after", x.count(0), 400);
        due.is("the answer is the last", x.letter(399, 0), 2);
    }

    @Holds("Terms: an INCARNATION (1, 2, .. for all clients together)")
    static void incarnations(Due due) {
        OnceCalls x = new OnceCalls(2, 10);
        due.is("the first", x.open(3), 1);
        due.is("of another client", x.open(1), 2);
        x.open(6);
        x.open(-1);
        due.is("after openings that were refused", x.open(3), 3);
        due.is("the other keeps its own", x.client(1, 0), 2);
    }

    @Holds("Terms: its incarnation is LIVE as long as time is not above that")
    static void liveAtTheEndOfTheLease(Due due) {
        OnceCalls x = Steps.opened(2, 10, 0);
        x.ticks(10);
        due.is("live at the end", x.client(0, 2), 1);
        due.is("a call at the end", Steps.finish(x, 0, 0, 1, 1L, 0L), 1);
        due.is("takes effect", x.count(2), 1);
        x.ticks(1);
        due.is("not live above it", x.client(0, 2), 0);
        Steps.ask(x, 0, 0, 1, 1L, 0L);
        due.is("is answered 3 above it", Steps.last(x, 5), 3);
        due.is("no effect", x.count(2), 1);
    }

    @Holds("Terms: LIVE .. and the client was not opened anew")
    static void notLiveWhenOpenedAnew(Due due) {
        OnceCalls x = Steps.opened(2, 10, 0);
        x.call(0, 0, 1, 1L, 0L);
        x.open(0);
        x.deliver(0);
        due.is("the old incarnation's request", x.letter(0, 5), 3);
        due.is("takes no effect", x.count(2), 0);
        due.is("the new one is live", x.client(0, 2), 1);
    }

    @Holds("Terms: CALLS with numbers 1, 2, ..")
    static void numbersOfCalls(Due due) {
        OnceCalls x = Steps.opened(2, 10, 0, 1);
        due.is("first", x.call(0, 0, 0, 1L, 0L), 1);
        x.call(0, 32, 0, 1L, 0L);
        x.call(0, 0, 4, 1L, 0L);
        due.is("a refused call has no number", x.call(0, 0, 0, 1L, 0L), 2);
        due.is("another client counts by itself", x.call(1, 0, 0, 1L, 0L), 1);
        x.open(0);
        due.is("opened anew, it begins anew", x.call(0, 0, 0, 1L, 0L), 1);
    }

    @Holds("Terms: each WAITS, is DONE (with a result), or REFUSED")
    static void statesOfCalls(Due due) {
        OnceCalls x = Steps.opened(2, 10, 0);
        Steps.finish(x, 0, 0, 1, 9L, 0L);
        due.is("DONE", x.state(0, 1), 1);
        due.is("with a result", x.result(0, 1), 9);
        x.ticks(11);
        x.call(0, 0, 1, 1L, 0L);
        due.is("WAITS", x.state(0, 2), 0);
        Steps.deliverLast(x);
        due.is("WAITS until an answer comes", x.state(0, 2), 0);
        Steps.deliverLast(x);
        due.is("REFUSED", x.state(0, 2), 2);
    }

    @Holds("Terms: a GUESS, a server (at first bucket % S)")
    static void guessesAtFirst(Due due) {
        for (int servers = 2; servers <= 4; servers++) {
            OnceCalls x = new OnceCalls(servers, 10);
            for (int client = 0; client < 6; client++) {
                for (int bucket = 0; bucket < 8; bucket++) {
                    due.is("guess of client " + client + " for " + bucket + " of " + servers,
                        x.client(client, 10 + bucket), bucket % servers);
                }
            }
        }
    }

    @Holds("Terms: it stays when a client is opened anew")
    static void guessesStay(Due due) {
        OnceCalls x = Steps.opened(2, 100, 0);
        Steps.moveOver(x, 0, 6, 1);
        x.call(0, 6, 0, 1L, 0L);
        Steps.deliverLast(x);
        Steps.deliverLast(x);
        due.is("learned", x.client(0, 16), 1);
        x.open(0);
        due.is("stays", x.client(0, 16), 1);
        x.call(0, 6, 0, 1L, 0L);
        due.is("the next call goes there", Steps.last(x, 1), 1);
        due.is("another client has not learned it", x.client(1, 16), 0);
    }

    @Holds("Terms: Its FIRST is the least number of a call that waits")
    static void firstThatWaits(Due due) {
        OnceCalls x = Steps.opened(2, 10, 0);
        for (int n = 1; n <= 4; n++) {
            x.call(0, 0, 1, 1L, 0L);
        }
        for (int i = 0; i < 4; i++) {
            x.deliver(0);
        }
        x.sync(0);
        due.is("all wait", x.client(0, 4), 1);
        x.deliver(1);
        due.is("2 is done, 1 waits", x.client(0, 4), 1);
        x.deliver(0);
        due.is("1 and 2 are done", x.client(0, 4), 3);
        x.deliver(1);
        due.is("4 is done, 3 waits", x.client(0, 4), 3);
    }

    @Holds("Terms: or else the next number")
    static void firstWhenNoneWaits(Due due) {
        OnceCalls x = Steps.opened(2, 10, 0);
        due.is("no calls", x.client(0, 4), 1);
        Steps.finish(x, 0, 0, 1, 1L, 0L);
        due.is("all are done", x.client(0, 4), 2);
        x.ticks(11);
        x.call(0, 0, 1, 1L, 0L);
        due.is("one waits", x.client(0, 4), 2);
        Steps.deliverLast(x);
        Steps.deliverLast(x);
        due.is("it is refused", x.client(0, 4), 3);
        x.open(0);
        due.is("opened anew", x.client(0, 4), 1);
    }

    @Holds("Terms: RECORDS (client, incarnation, number, result; 12 at most, ..)")
    static void twelveRecordsAtMost(Due due) {
        OnceCalls x = Steps.twelveRecords();
        due.is("records", x.bucket(0, 0, 3), 12);
        due.is("the last has number", x.record(0, 0, 11, 2), 4);
        Steps.ask(x, 3, 0, 1, 1L, 0L);
        due.is("records after one more request", x.bucket(0, 0, 3), 12);
        due.is("the last still has number", x.record(0, 0, 11, 2), 4);
        due.is("there is no record 12", x.record(0, 0, 12, 0), NONE);
        due.is("another bucket has room", Steps.ask(x, 3, 2, 1, 1L, 0L), 2);
        due.is("its records", x.bucket(0, 2, 3), 1);
    }

    @Holds("Terms: RECORDS .. in the order in which they came")
    static void orderOfRecords(Due due) {
        OnceCalls x = Steps.opened(2, 100, 4, 2);
        x.call(2, 0, 0, 1L, 0L);
        x.call(2, 8, 0, 1L, 0L);
        x.call(4, 16, 0, 1L, 0L);
        x.deliver(1);
        x.deliver(1);
        x.deliver(0);
        int[][] records = {{2, 2, 2}, {4, 1, 1}, {2, 2, 1}};
        for (int i = 0; i < 3; i++) {
            for (int what = 0; what < 3; what++) {
                due.is("record(0, 0, " + i + ", " + what + ")", x.record(0, 0, i, what), records[i][what]);
            }
        }
    }

    @Holds("Terms: for each client an INCARNATION and a FIRST (0, 0)")
    static void nothingKnownAtFirst(Due due) {
        OnceCalls x = Steps.opened(4, 10, 0, 1, 2, 3, 4, 5);
        for (int bucket = 0; bucket < 8; bucket++) {
            for (int client = 0; client < 6; client++) {
                due.is("incarnation", x.bucket(bucket % 4, bucket, 10 + client), 0);
                due.is("FIRST", x.bucket(bucket % 4, bucket, 20 + client), 0);
            }
        }
        Steps.ask(x, 5, 0, 0, 1L, 0L);
        for (int client = 0; client < 6; client++) {
            due.is("incarnation then", x.bucket(0, 0, 10 + client), client == 5 ? 6 : 0);
            due.is("FIRST then", x.bucket(0, 0, 20 + client), client == 5 ? 1 : 0);
        }
    }

    private static void asAtFirst(Due due, OnceCalls x, int servers, int server) {
        for (int bucket = 0; bucket < 8; bucket++) {
            boolean owned = bucket % servers == server;
            due.is("status of " + bucket, x.bucket(server, bucket, 0), owned ? 1 : 0);
            due.is("version of " + bucket, x.bucket(server, bucket, 1), owned ? 1 : 0);
            due.is("hint of " + bucket, x.bucket(server, bucket, 2), bucket % servers);
            due.is("records of " + bucket, x.bucket(server, bucket, 3), 0);
        }
    }

    @Holds("Terms: At first bucket b is OWNED by server b % S, version 1; elsewhere NOT HERE, version 0; "
        + "the hint is b % S")
    static void bucketsAtFirst(Due due) {
        for (int servers = 2; servers <= 4; servers++) {
            OnceCalls x = new OnceCalls(servers, 10);
            for (int server = 0; server < servers; server++) {
                asAtFirst(due, x, servers, server);
            }
        }
    }

    @Holds("Terms: In both, for each bucket: .. (what is KEPT is at first as memory is)")
    static void keptAtFirst(Due due) {
        for (int servers = 2; servers <= 4; servers++) {
            OnceCalls x = new OnceCalls(servers, 10);
            for (int server = 0; server < servers; server++) {
                x.crash(server);
                asAtFirst(due, x, servers, server);
                x.start(server);
            }
        }
    }

    @Holds("Terms: A SERVER is UP or DOWN (up at first)")
    static void upAtFirst(Due due) {
        OnceCalls x = new OnceCalls(4, 10);
        for (int server = 0; server < 4; server++) {
            due.is("up", x.server(server, 0), 1);
            due.is("start of one that is up", x.start(server), STATE);
        }
    }
}
