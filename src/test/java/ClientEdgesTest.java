/** The edges that promises 1 to 6, 15 and 20 to 22 name: a new object, clients, their calls, and time. */
public final class ClientEdgesTest {
    private static final int NONE = -1, FULL = -2, STATE = -3;
    private static final int MIN = Integer.MIN_VALUE, MAX = Integer.MAX_VALUE;

    public static void main(String[] args) {
        Edges.run(ClientEdgesTest.class);
    }

    /** Something of everything: calls that wait, are done and refused, letters, held ones, a server that is down. */
    private static OnceCalls busy() {
        OnceCalls x = Steps.opened(3, 10, 0, 1, 2);
        Steps.finish(x, 0, 0, 1, 1L, 0L);
        x.call(2, 1, 1, 1L, 0L);
        x.ticks(8);
        x.renew(0);
        x.ticks(3);
        Steps.deliverLast(x);
        Steps.deliverLast(x);
        Steps.ask(x, 0, 0, 1, 1L, 0L);
        x.call(0, 1, 0, 1L, 0L);
        x.ack(0, 2);
        x.crash(2);
        return x;
    }

    private static OnceCalls fourWait() {
        OnceCalls x = Steps.opened(2, 10, 0);
        for (int n = 1; n <= 4; n++) {
            x.call(0, n, 1, 1L, 0L);
        }
        return x;
    }

    // 1 A new object

    @Holds("Promise 1: S servers (3 when it is not 2 .. 4)")
    static void numbersOfServers(Due due) {
        int[] asked = {2, 3, 4, 1, 5, 0, -1, -3, MIN, MAX};
        int[] made = {2, 3, 4, 3, 3, 3, 3, 3, 3, 3};
        for (int i = 0; i < asked.length; i++) {
            OnceCalls x = new OnceCalls(asked[i], 10);
            due.is("the last of " + asked[i], x.server(made[i] - 1, 0), 1);
            due.is("one more than of " + asked[i], x.server(made[i], 0), NONE);
            due.is("owner of bucket 7 of " + asked[i], x.bucket(7 % made[i], 7, 0), 1);
            due.is("guess for bucket 7 of " + asked[i], x.client(0, 17), 7 % made[i]);
        }
    }

    @Holds("Promise 1: leases of so many ticks (1 .. 1000; 50 for another number)")
    static void lengthsOfLeases(Due due) {
        int[] asked = {1, 2, 49, 50, 51, 999, 1000, 0, 1001, -1, -50, MIN, MAX};
        int[] made = {1, 2, 49, 50, 51, 999, 1000, 50, 50, 50, 50, 50, 50};
        for (int i = 0; i < asked.length; i++) {
            OnceCalls x = new OnceCalls(3, asked[i]);
            x.open(0);
            due.is("end of a lease of " + asked[i], x.client(0, 1), made[i]);
            x.ticks(1);
            due.is("renewed", x.renew(0), 1 + made[i]);
        }
    }

    @Holds("Promise 1: both numbers are looked at, each by itself")
    static void bothNumbersAreWrong(Due due) {
        OnceCalls x = new OnceCalls(MAX, MIN);
        x.open(0);
        due.is("servers", x.server(2, 0), 1);
        due.is("no more servers", x.server(3, 0), NONE);
        due.is("lease", x.client(0, 1), 50);
        OnceCalls y = new OnceCalls(4, 0);
        y.open(0);
        due.is("servers that are right", y.server(3, 0), 1);
        due.is("a lease that is not", y.client(0, 1), 50);
    }

    // 2 open

    @Holds("Promise 2: A client is opened, anew, too: its incarnation")
    static void openedAnew(Due due) {
        OnceCalls x = new OnceCalls(2, 10);
        due.is("open", x.open(5), 1);
        due.is("while it is live", x.open(5), 2);
        due.is("incarnation", x.client(5, 0), 2);
        x.ticks(11);
        due.is("when it is not", x.open(5), 3);
        due.is("live again", x.client(5, 2), 1);
    }

    @Holds("Promise 2: no calls")
    static void openedWithoutCalls(Due due) {
        OnceCalls x = fourWait();
        x.open(0);
        due.is("calls", x.client(0, 3), 0);
        due.is("waiting", x.client(0, 5), 0);
        due.is("FIRST", x.client(0, 4), 1);
        due.is("state of call 1", x.state(0, 1), NONE);
        due.is("retry of call 1", x.retry(0, 1), NONE);
        due.is("there is room for four again", x.call(0, 0, 1, 1L, 0L), 1);
        due.is("state of the new call 1", x.state(0, 1), 0);
        due.is("letters of before are still in the row", x.count(0), 5);
    }

    @Holds("Promise 2: its lease is up to time and as many ticks")
    static void openedWithALease(Due due) {
        OnceCalls x = new OnceCalls(2, 10);
        x.ticks(7);
        x.open(0);
        due.is("end", x.client(0, 1), 17);
        x.ticks(4);
        x.open(0);
        due.is("end of the next", x.client(0, 1), 21);
        due.is("another client has none", x.client(1, 1), 0);
    }

    @Holds("Promise 2: NONE (and what is refused changes nothing)")
    static void openNone(Due due) {
        int[] wrong = {-1, 6, MIN, MAX};
        for (int client : wrong) {
            due.is("open(" + client + ")", busy().open(client), NONE);
            Looks.same(due, "open(" + client + ")", ClientEdgesTest::busy, x -> x.open(client));
        }
    }

    // 3 renew

    @Holds("Promise 3: Its lease is up to time and as many ticks again: that time")
    static void renewed(Due due) {
        OnceCalls x = Steps.opened(2, 10, 0, 1);
        due.is("at once", x.renew(0), 10);
        x.ticks(3);
        due.is("not on top of what it had", x.renew(0), 13);
        due.is("end", x.client(0, 1), 13);
        due.is("another client's", x.client(1, 1), 10);
        due.is("twice", x.renew(0), 13);
        due.is("the incarnation stays", x.client(0, 0), 1);
    }

    @Holds("Promise 3: STATE: it was never opened")
    static void renewNeverOpened(Due due) {
        for (int client = 3; client <= 5; client++) {
            int never = client;
            due.is("renew(" + never + ")", busy().renew(never), STATE);
            Looks.same(due, "renew(" + never + ")", ClientEdgesTest::busy, x -> x.renew(never));
        }
        due.is("at time 0, too", new OnceCalls(2, 10).renew(0), STATE);
    }

    @Holds("Promise 3: STATE: .. or its incarnation is not live")
    static void renewTooLate(Due due) {
        OnceCalls x = Steps.opened(2, 10, 0);
        x.ticks(10);
        due.is("at the end", x.renew(0), 20);
        x.ticks(10);
        x.ticks(1);
        due.is("one tick later", x.renew(0), STATE);
        Looks.same(due, "renew(1)", ClientEdgesTest::busy, y -> y.renew(1));
        due.is("busy().renew(1)", busy().renew(1), STATE);
    }

    @Holds("Promise 3: NONE")
    static void renewNone(Due due) {
        int[] wrong = {-1, 6, MIN, MAX};
        for (int client : wrong) {
            due.is("renew(" + client + ")", busy().renew(client), NONE);
            Looks.same(due, "renew(" + client + ")", ClientEdgesTest::busy, x -> x.renew(client));
        }
    }

    // 4 call

    @Holds("Promise 4: A call: its number")
    static void called(Due due) {
        OnceCalls x = Steps.opened(2, 10, 0);
        due.is("the first", x.call(0, 0, 0, 1L, 0L), 1);
        due.is("the second", x.call(0, 31, 3, 1L, 0L), 2);
        due.is("calls", x.client(0, 3), 2);
        due.is("letters", x.count(0), 2);
    }

    private static void calledNone(Due due, int client, int key, int act) {
        String name = "call(" + client + ", " + key + ", " + act + ", 1, 1)";
        due.is(name, busy().call(client, key, act, 1L, 1L), NONE);
        Looks.same(due, name, ClientEdgesTest::busy, x -> x.call(client, key, act, 1L, 1L));
    }

    @Holds("Promise 4: NONE (client, ..)")
    static void callOfNoClient(Due due) {
        int[] wrong = {-1, 6, MIN, MAX};
        for (int client : wrong) {
            calledNone(due, client, 0, 0);
        }
    }

    @Holds("Promise 4: NONE (.. key ..)")
    static void callOfNoKey(Due due) {
        int[] wrong = {-1, 32, -8, 40, MIN, MAX};
        for (int key : wrong) {
            calledNone(due, 0, key, 0);
        }
    }

    @Holds("Promise 4: NONE (.. act 0 .. 3)")
    static void callOfNoAct(Due due) {
        int[] wrong = {-1, 4, MIN, MAX};
        for (int act : wrong) {
            calledNone(due, 0, 0, act);
        }
        for (int act = 0; act <= 3; act++) {
            due.is("act " + act, Steps.opened(2, 10, 0).call(0, 0, act, 1L, 1L), 1);
        }
    }

    @Holds("Promise 4: STATE: it was never opened")
    static void callNeverOpened(Due due) {
        due.is("call", busy().call(5, 0, 0, 1L, 1L), STATE);
        Looks.same(due, "call(5, 0, 0, 1, 1)", ClientEdgesTest::busy, x -> x.call(5, 0, 0, 1L, 1L));
    }

    @Holds("Promise 4: STATE: it was never opened (a lease that is over is not told as STATE)")
    static void callWithoutALease(Due due) {
        OnceCalls x = Steps.opened(2, 10, 0);
        x.ticks(11);
        due.is("call", x.call(0, 0, 0, 1L, 1L), 1);
        due.is("it waits", x.state(0, 1), 0);
        due.is("its request goes", x.count(0), 1);
    }

    @Holds("Promise 4: FULL: 4 of its calls wait")
    static void fullWhenFourWait(Due due) {
        due.is("a fifth", fourWait().call(0, 0, 0, 1L, 1L), FULL);
        Looks.same(due, "call(0, 0, 0, 1, 1)", ClientEdgesTest::fourWait, x -> x.call(0, 0, 0, 1L, 1L));
        OnceCalls x = fourWait();
        x.open(1);
        due.is("another client has room", x.call(1, 0, 0, 1L, 1L), 1);
    }

    @Holds("Promise 4: FULL: 4 of its calls wait (three wait, and one is DONE)")
    static void roomWhenThreeWait(Due due) {
        OnceCalls x = fourWait();
        x.deliver(0);
        x.sync(1);
        due.is("it waits until the answer comes", x.call(0, 0, 0, 1L, 1L), FULL);
        Steps.deliverLast(x);
        due.is("then there is room", x.call(0, 0, 0, 1L, 1L), 5);
        due.is("for one", x.call(0, 0, 0, 1L, 1L), FULL);
    }

    @Holds("Promise 4: FULL: 4 of its calls wait (calls that are REFUSED do not)")
    static void roomWhenAllAreRefused(Due due) {
        OnceCalls x = fourWait();
        x.ticks(11);
        x.deliver(0);
        Steps.deliverLast(x);
        due.is("waiting", x.client(0, 5), 0);
        for (int n = 5; n <= 8; n++) {
            due.is("call " + n, x.call(0, 0, 0, 1L, 1L), n);
        }
        due.is("one more", x.call(0, 0, 0, 1L, 1L), FULL);
    }

    private static OnceCalls sixtyCalls() {
        OnceCalls x = Steps.opened(2, 1000, 0);
        for (int n = 1; n <= 60; n++) {
            x.call(0, 0, 1, 1L, 0L);
            x.deliver(0);
            x.sync(0);
            x.deliver(0);
        }
        return x;
    }

    @Holds("Promise 4: FULL: .. or it had 60")
    static void fullAfterSixty(Due due) {
        OnceCalls x = sixtyCalls();
        due.is("calls", x.client(0, 3), 60);
        due.is("none waits", x.client(0, 5), 0);
        due.is("the 60th", x.result(0, 60), 60);
        due.is("a 61st", x.call(0, 0, 1, 1L, 0L), FULL);
        due.is("calls still", x.client(0, 3), 60);
        due.is("letters", x.count(0), 0);
        due.is("there is no call 61", x.state(0, 61), NONE);
        due.is("FIRST", x.client(0, 4), 61);
        due.is("the server has one record", x.bucket(0, 0, 3), 1);
        Looks.same(due, "call(0, 0, 1, 1, 0)", ClientEdgesTest::sixtyCalls, y -> y.call(0, 0, 1, 1L, 0L));
    }

    @Holds("Promise 4: FULL: .. or it had 60 (refused ones are counted, those before it was opened anew are not)")
    static void sixtyOfAnIncarnation(Due due) {
        OnceCalls x = Steps.opened(2, 1, 0);
        x.ticks(2);
        for (int n = 1; n <= 60; n += 4) {
            for (int i = 0; i < 4; i++) {
                due.is("call", x.call(0, 0, 1, 1L, 0L), n + i);
            }
            x.deliver(0);
            x.deliver(3);
            for (int i = 0; i < 3; i++) {
                x.drop(0);
            }
        }
        due.is("waiting", x.client(0, 5), 0);
        due.is("all are refused", x.state(0, 60), 2);
        due.is("a 61st", x.call(0, 0, 1, 1L, 0L), FULL);
        x.open(0);
        due.is("opened anew", x.call(0, 0, 1, 1L, 0L), 1);
        due.is("calls then", x.client(0, 3), 1);
    }

    @Holds("Terms: NONE, -1, answers for what is not there (first of all): before STATE and FULL, in call")
    static void noneComesFirstInCall(Due due) {
        due.is("before STATE, key", busy().call(5, 32, 0, 1L, 1L), NONE);
        due.is("before STATE, act", busy().call(5, 0, 4, 1L, 1L), NONE);
        due.is("before FULL, key", fourWait().call(0, -1, 0, 1L, 1L), NONE);
        due.is("before FULL, act", fourWait().call(0, 0, -1, 1L, 1L), NONE);
    }

    // 5 retry

    @Holds("Promise 5: A retry: 1")
    static void retried(Due due) {
        OnceCalls x = fourWait();
        for (int n = 1; n <= 4; n++) {
            due.is("retry(0, " + n + ")", x.retry(0, n), 1);
            due.is("number", Steps.last(x, 4), n);
        }
        due.is("letters", x.count(0), 8);
        due.is("again", x.retry(0, 1), 1);
        due.is("no call more", x.client(0, 3), 4);
    }

    @Holds("Promise 5: 0: that call does not wait")
    static void retryOfOneThatDoesNotWait(Due due) {
        due.is("DONE", busy().retry(0, 1), 0);
        due.is("REFUSED", busy().retry(2, 1), 0);
        Looks.same(due, "retry(0, 1)", ClientEdgesTest::busy, x -> x.retry(0, 1));
        Looks.same(due, "retry(2, 1)", ClientEdgesTest::busy, x -> x.retry(2, 1));
    }

    @Holds("Promise 5: NONE (the client, ..)")
    static void retryOfNoClient(Due due) {
        int[] wrong = {-1, 6, MIN, MAX};
        for (int client : wrong) {
            due.is("retry(" + client + ", 1)", busy().retry(client, 1), NONE);
            Looks.same(due, "retry(" + client + ", 1)", ClientEdgesTest::busy, x -> x.retry(client, 1));
        }
    }

    @Holds("Promise 5: NONE (.. the call)")
    static void retryOfNoCall(Due due) {
        int[] wrong = {0, -1, 4, 60, 61, 62, MIN, MAX};
        for (int number : wrong) {
            due.is("retry(0, " + number + ")", busy().retry(0, number), NONE);
            Looks.same(due, "retry(0, " + number + ")", ClientEdgesTest::busy, x -> x.retry(0, number));
        }
        due.is("the last that is there", busy().retry(0, 3), 1);
        due.is("of one without calls", busy().retry(1, 1), NONE);
        due.is("of one never opened", busy().retry(5, 1), NONE);
    }

    // 6 ack

    @Holds("Promise 6: 5 ACK goes to a server: the FIRST that it tells")
    static void acked(Due due) {
        OnceCalls x = busy();
        due.is("1 is done, 2 waits", x.ack(0, 1), 2);
        int[] ack = {5, 1, 0, 1, 2, 0};
        for (int what = 0; what <= 5; what++) {
            due.is("letter, " + what, Steps.last(x, what), ack[what]);
        }
        due.is("no calls", x.ack(1, 0), 1);
        due.is("1 is refused", x.ack(2, 0), 2);
        due.is("to one that is down", x.ack(2, 2), 2);
        due.is("letters", x.count(0), 6);
    }

    @Holds("Promise 6: NONE")
    static void ackNone(Due due) {
        int[] clients = {-1, 6, MIN, MAX};
        for (int client : clients) {
            due.is("ack(" + client + ", 0)", busy().ack(client, 0), NONE);
            Looks.same(due, "ack(" + client + ", 0)", ClientEdgesTest::busy, x -> x.ack(client, 0));
        }
        int[] servers = {-1, 3, 4, MIN, MAX};
        for (int server : servers) {
            due.is("ack(0, " + server + ")", busy().ack(0, server), NONE);
            Looks.same(due, "ack(0, " + server + ")", ClientEdgesTest::busy, x -> x.ack(0, server));
        }
    }

    @Holds("Promise 6: STATE: the client was never opened")
    static void ackNeverOpened(Due due) {
        due.is("ack(5, 0)", busy().ack(5, 0), STATE);
        Looks.same(due, "ack(5, 0)", ClientEdgesTest::busy, x -> x.ack(5, 0));
        due.is("one whose lease is over can", busy().ack(1, 0), 1);
    }

    @Holds("Terms: NONE, -1, answers for what is not there (first of all): before STATE, in ack")
    static void noneComesFirstInAck(Due due) {
        due.is("ack(5, 3)", busy().ack(5, 3), NONE);
        due.is("ack(5, -1)", busy().ack(5, -1), NONE);
    }

    // 15 ticks

    @Holds("Promise 15: So many ticks (0 .. 1000) go by: the time")
    static void ticks(Due due) {
        OnceCalls x = new OnceCalls(2, 10);
        due.is("ticks(0)", x.ticks(0), 0);
        due.is("ticks(1)", x.ticks(1), 1);
        due.is("ticks(1000)", x.ticks(1000), 1001);
        due.is("ticks(999)", x.ticks(999), 2000);
        due.is("ticks(0) again", x.ticks(0), 2000);
    }

    @Holds("Promise 15: NONE: another number")
    static void ticksNone(Due due) {
        int[] wrong = {-1, 1001, MIN, MAX};
        for (int n : wrong) {
            due.is("ticks(" + n + ")", busy().ticks(n), NONE);
            Looks.same(due, "ticks(" + n + ")", ClientEdgesTest::busy, x -> x.ticks(n));
        }
    }

    // 20 client

    @Holds("Promise 20: what = 0 its incarnation (0 before it was opened), 1 the end of its lease (0)")
    static void clientBeforeItWasOpened(Due due) {
        OnceCalls x = new OnceCalls(2, 10);
        x.ticks(5);
        int[] looks = {0, 0, 0, 0, 1, 0};
        for (int what = 0; what <= 5; what++) {
            due.is("client(4, " + what + ")", x.client(4, what), looks[what]);
        }
        x.open(4);
        due.is("incarnation", x.client(4, 0), 1);
        due.is("end", x.client(4, 1), 15);
    }

    @Holds("Promise 20: 2 whether its incarnation is live")
    static void clientIsLive(Due due) {
        OnceCalls x = Steps.opened(2, 10, 0);
        due.is("at once", x.client(0, 2), 1);
        x.ticks(10);
        due.is("at the end", x.client(0, 2), 1);
        x.ticks(1);
        due.is("above it", x.client(0, 2), 0);
        due.is("the end stays", x.client(0, 1), 10);
        due.is("one never opened, at time 0", new OnceCalls(2, 10).client(0, 2), 0);
    }

    @Holds("Promise 20: 3 how many calls it had, 4 its FIRST, 5 how many wait")
    static void callsOfAClient(Due due) {
        OnceCalls x = busy();
        due.is("calls", x.client(0, 3), 3);
        due.is("FIRST", x.client(0, 4), 2);
        due.is("waiting", x.client(0, 5), 2);
        due.is("calls, refused", x.client(2, 3), 1);
        due.is("FIRST, refused", x.client(2, 4), 2);
        due.is("waiting, refused", x.client(2, 5), 0);
        due.is("four wait", fourWait().client(0, 5), 4);
    }

    @Holds("Promise 20: 10 + b its guess for bucket b")
    static void guessesOfAClient(Due due) {
        OnceCalls x = new OnceCalls(4, 10);
        for (int bucket = 0; bucket < 8; bucket++) {
            due.is("guess for " + bucket, x.client(0, 10 + bucket), bucket % 4);
        }
    }

    @Holds("Promise 20: NONE")
    static void clientNone(Due due) {
        OnceCalls x = busy();
        int[] whats = {-1, 6, 7, 8, 9, 18, 19, 20, MIN, MAX};
        for (int what : whats) {
            due.is("client(0, " + what + ")", x.client(0, what), NONE);
        }
        int[] clients = {-1, 6, MIN, MAX};
        for (int client : clients) {
            due.is("client(" + client + ", 0)", x.client(client, 0), NONE);
            due.is("client(" + client + ", 10)", x.client(client, 10), NONE);
        }
    }

    // 21 state

    @Holds("Promise 21: A call of the client's incarnation: 0 it WAITS, 1 DONE, 2 REFUSED")
    static void states(Due due) {
        OnceCalls x = busy();
        due.is("DONE", x.state(0, 1), 1);
        due.is("WAITS", x.state(0, 2), 0);
        due.is("WAITS, the last", x.state(0, 3), 0);
        due.is("REFUSED", x.state(2, 1), 2);
        x.open(0);
        due.is("of the incarnation before", x.state(0, 1), NONE);
    }

    @Holds("Promise 21: NONE")
    static void stateNone(Due due) {
        OnceCalls x = busy();
        int[] numbers = {0, -1, 4, 60, 61, MIN, MAX};
        for (int number : numbers) {
            due.is("state(0, " + number + ")", x.state(0, number), NONE);
        }
        int[] clients = {-1, 6, MIN, MAX};
        for (int client : clients) {
            due.is("state(" + client + ", 1)", x.state(client, 1), NONE);
        }
        due.is("never opened", x.state(5, 1), NONE);
        due.is("without calls", x.state(1, 1), NONE);
    }

    // 22 result

    @Holds("Promise 22: The result of a call that is DONE")
    static void resultOfOneThatIsDone(Due due) {
        OnceCalls x = Steps.opened(2, 10, 0);
        Steps.finish(x, 0, 0, 0, -1L, 0L);
        Steps.finish(x, 0, 0, 1, Long.MAX_VALUE, 0L);
        due.is("result(0, 1)", x.result(0, 1), 0);
        due.is("result(0, 2)", x.result(0, 2), Long.MAX_VALUE - 1);
    }

    @Holds("Promise 22: 0 of all others")
    static void resultOfAllOthers(Due due) {
        OnceCalls x = busy();
        due.is("DONE", x.result(0, 1), 1);
        due.is("WAITS, though it took effect", x.result(0, 2), 0);
        due.is("REFUSED", x.result(2, 1), 0);
        int[] numbers = {0, -1, 4, 60, 61, MIN, MAX};
        for (int number : numbers) {
            due.is("result(0, " + number + ")", x.result(0, number), 0);
        }
        int[] clients = {-1, 6, MIN, MAX};
        for (int client : clients) {
            due.is("result(" + client + ", 1)", x.result(client, 1), 0);
        }
        x.open(0);
        due.is("of the incarnation before", x.result(0, 1), 0);
        x.call(0, 0, 1, 1L, 0L);
        due.is("the new call 1", x.result(0, 1), 0);
    }
}
