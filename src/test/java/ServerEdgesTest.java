import java.util.function.ToIntFunction;

/** The edges that promises 10 to 14 and 16 to 19 name: servers, and what they have of each bucket. */
public final class ServerEdgesTest {
    private static final int NONE = -1, STATE = -3;
    private static final int MIN = Integer.MIN_VALUE, MAX = Integer.MAX_VALUE;

    public static void main(String[] args) {
        Edges.run(ServerEdgesTest.class);
    }

    /**
     * Three servers. Server 0 owns 0 and 3 and holds an answer, 6 is leaving it for 1; server 2 is down, and lost a
     * record that was not kept; client 1's lease is over, and a record of it is in bucket 0.
     */
    private static OnceCalls busy() {
        OnceCalls x = Steps.opened(3, 10, 0, 1);
        Steps.finish(x, 1, 0, 0, 4L, 0L);
        Steps.finish(x, 0, 5, 0, 5L, 0L);
        Steps.ask(x, 0, 29, 0, 6L, 0L);
        x.crash(2);
        x.move(0, 6, 1);
        x.sync(0);
        x.ticks(10);
        x.renew(0);
        x.ticks(1);
        Steps.ask(x, 0, 8, 0, 7L, 0L);
        return x;
    }

    private static void refused(Due due, String call, int answer, ToIntFunction<OnceCalls> refused) {
        due.is(call, refused.applyAsInt(busy()), answer);
        Looks.same(due, call, ServerEdgesTest::busy, refused::applyAsInt);
    }

    private static OnceCalls holds500() {
        OnceCalls x = new OnceCalls(2, 10);
        for (int i = 0; i < 500; i++) {
            x.move(0, 0, 1);
        }
        return x;
    }

    // 10 sync

    @Holds("Promise 10: SYNC: how many letters were held")
    static void syncTellsHowManyWereHeld(Due due) {
        OnceCalls x = busy();
        due.is("one", x.sync(0), 1);
        due.is("none then", x.sync(0), 0);
        due.is("none at another", x.sync(1), 0);
    }

    @Holds("Promise 10: how many letters were held (no bound is told for them, the row takes 400)")
    static void syncOfManyLetters(Due due) {
        OnceCalls x = holds500();
        due.is("held", x.server(0, 2), 500);
        due.is("sync", x.sync(0), 500);
        due.is("letters", x.count(0), 400);
        due.is("lost", x.count(1), 100);
        due.is("held then", x.server(0, 2), 0);
        due.is("the last", x.letter(399, 0), 3);
    }

    @Holds("Promise 10: NONE (and what is refused changes nothing)")
    static void syncNone(Due due) {
        int[] wrong = {-1, 3, 4, MIN, MAX};
        for (int server : wrong) {
            refused(due, "sync(" + server + ")", NONE, x -> x.sync(server));
        }
    }

    @Holds("Promise 10: STATE: it is down (and what is refused changes nothing)")
    static void syncOfOneThatIsDown(Due due) {
        refused(due, "sync(2)", STATE, x -> x.sync(2));
    }

    // 11 crash

    @Holds("Promise 11: CRASH: how many letters that were held are lost")
    static void crashTellsHowManyAreLost(Due due) {
        OnceCalls x = busy();
        int lost = x.count(1);
        due.is("one", x.crash(0), 1);
        due.is("lost", x.count(1), lost + 1);
        due.is("none at another", x.crash(1), 0);
        due.is("lost still", x.count(1), lost + 1);
        due.is("many", holds500().crash(0), 500);
    }

    @Holds("Promise 11: NONE (and what is refused changes nothing)")
    static void crashNone(Due due) {
        int[] wrong = {-1, 3, 4, MIN, MAX};
        for (int server : wrong) {
            refused(due, "crash(" + server + ")", NONE, x -> x.crash(server));
        }
    }

    @Holds("Promise 11: STATE: it is down (and what is refused changes nothing)")
    static void crashOfOneThatIsDown(Due due) {
        refused(due, "crash(2)", STATE, x -> x.crash(2));
    }

    // 12 start

    @Holds("Promise 12: START: 1")
    static void started(Due due) {
        OnceCalls x = busy();
        due.is("start", x.start(2), 1);
        due.is("up", x.server(2, 0), 1);
        x.crash(2);
        due.is("again, after another crash", x.start(2), 1);
    }

    @Holds("Promise 12: NONE (and what is refused changes nothing)")
    static void startNone(Due due) {
        int[] wrong = {-1, 3, 4, MIN, MAX};
        for (int server : wrong) {
            refused(due, "start(" + server + ")", NONE, x -> x.start(server));
        }
    }

    @Holds("Promise 12: STATE: it is up (and what is refused changes nothing)")
    static void startOfOneThatIsUp(Due due) {
        refused(due, "start(0)", STATE, x -> x.start(0));
        refused(due, "start(1)", STATE, x -> x.start(1));
        OnceCalls x = busy();
        x.start(2);
        due.is("twice", x.start(2), STATE);
    }

    // 13 move

    @Holds("Promise 13: TO MOVE a bucket: the version that goes")
    static void moveTellsTheVersion(Due due) {
        OnceCalls x = busy();
        due.is("version 1 goes as", x.move(0, 0, 1), 2);
        due.is("anew", x.move(0, 0, 1), 2);
        due.is("one that was leaving before", x.move(0, 6, 1), 2);
        due.is("to a server that is down", x.move(0, 3, 2), 2);
        OnceCalls y = new OnceCalls(2, 10);
        Steps.moveOver(y, 0, 0, 1);
        due.is("version 2 goes as", y.move(1, 0, 0), 3);
    }

    @Holds("Promise 13: NONE (server, ..)")
    static void moveFromNoServer(Due due) {
        int[] wrong = {-1, 3, 4, MIN, MAX};
        for (int server : wrong) {
            refused(due, "move(" + server + ", 0, 1)", NONE, x -> x.move(server, 0, 1));
        }
    }

    @Holds("Promise 13: NONE (.. bucket ..)")
    static void moveOfNoBucket(Due due) {
        int[] wrong = {-1, 8, 9, MIN, MAX};
        for (int bucket : wrong) {
            refused(due, "move(0, " + bucket + ", 1)", NONE, x -> x.move(0, bucket, 1));
        }
        due.is("the last that is there", new OnceCalls(4, 10).move(3, 7, 0), 2);
    }

    @Holds("Promise 13: NONE (.. to)")
    static void moveToNoServer(Due due) {
        int[] wrong = {-1, 3, 4, MIN, MAX};
        for (int to : wrong) {
            refused(due, "move(0, 0, " + to + ")", NONE, x -> x.move(0, 0, to));
        }
    }

    @Holds("Promise 13: STATE: it is down")
    static void moveFromOneThatIsDown(Due due) {
        refused(due, "move(2, 5, 0)", STATE, x -> x.move(2, 5, 0));
    }

    @Holds("Promise 13: STATE: .. the bucket is not there")
    static void moveOfABucketThatIsNotThere(Due due) {
        refused(due, "move(0, 1, 2)", STATE, x -> x.move(0, 1, 2));
        refused(due, "move(1, 0, 0)", STATE, x -> x.move(1, 0, 0));
        OnceCalls x = new OnceCalls(2, 10);
        Steps.moveOver(x, 0, 0, 1);
        due.is("one that has left, to where it is", x.move(0, 0, 1), STATE);
    }

    @Holds("Promise 13: STATE: .. LEAVING to another one")
    static void moveOfOneThatLeavesForAnother(Due due) {
        refused(due, "move(0, 6, 2)", STATE, x -> x.move(0, 6, 2));
        due.is("to the same one it goes anew", busy().move(0, 6, 1), 2);
    }

    @Holds("Promise 13: STATE: .. or it would go to itself")
    static void moveToItself(Due due) {
        refused(due, "move(0, 0, 0)", STATE, x -> x.move(0, 0, 0));
        refused(due, "move(0, 6, 0)", STATE, x -> x.move(0, 6, 0));
        refused(due, "move(0, 1, 0)", STATE, x -> x.move(0, 1, 0));
        refused(due, "move(1, 1, 1)", STATE, x -> x.move(1, 1, 1));
    }

    @Holds("Terms: NONE, -1, answers for what is not there (first of all): before STATE, in move")
    static void noneComesFirstInMove(Due due) {
        due.is("down, no bucket", busy().move(2, 8, 0), NONE);
        due.is("down, no server to go to", busy().move(2, 5, 3), NONE);
        due.is("to itself, no bucket", busy().move(0, -1, 0), NONE);
        due.is("not there, no server to go to", busy().move(0, 1, -1), NONE);
    }

    // 14 collect

    @Holds("Promise 14: COLLECT: how many records went")
    static void collectTellsHowManyWent(Due due) {
        OnceCalls x = busy();
        due.is("records", x.server(0, 3), 2);
        due.is("one", x.collect(0), 1);
        due.is("records then", x.server(0, 3), 1);
        due.is("none then", x.collect(0), 0);
        due.is("none at another", x.collect(1), 0);
        OnceCalls full = Steps.twelveRecords();
        full.ticks(101);
        due.is("all of 12", full.collect(0), 12);
        due.is("records of none", full.bucket(0, 0, 3), 0);
    }

    @Holds("Promise 14: how many records went: when none went, nothing changed")
    static void collectOfNone(Due due) {
        OnceCalls x = Steps.twelveRecords();
        due.is("none", x.collect(0), 0);
        due.is("clean", x.server(0, 1), 1);
        due.is("records", x.server(0, 3), 12);
    }

    @Holds("Promise 14: NONE (and what is refused changes nothing)")
    static void collectNone(Due due) {
        int[] wrong = {-1, 3, 4, MIN, MAX};
        for (int server : wrong) {
            refused(due, "collect(" + server + ")", NONE, x -> x.collect(server));
        }
    }

    @Holds("Promise 14: STATE: it is down (and what is refused changes nothing)")
    static void collectOfOneThatIsDown(Due due) {
        OnceCalls x = busy();
        x.ticks(1000);
        due.is("with a record of an incarnation that is not live", x.collect(2), STATE);
        due.is("which stays", x.bucket(2, 5, 3), 1);
        refused(due, "collect(2)", STATE, y -> y.collect(2));
    }

    // 16 server

    @Holds("Promise 16: what = 0 whether it is up")
    static void serverIsUp(Due due) {
        OnceCalls x = busy();
        due.is("server(0, 0)", x.server(0, 0), 1);
        due.is("server(2, 0)", x.server(2, 0), 0);
    }

    @Holds("Promise 16: 1 whether it is clean (0 when it is down)")
    static void serverIsClean(Due due) {
        OnceCalls x = busy();
        due.is("not clean", x.server(0, 1), 0);
        due.is("clean", x.server(1, 1), 1);
        due.is("down", x.server(2, 1), 0);
        x.crash(1);
        due.is("one that was clean, down", x.server(1, 1), 0);
        x.start(1);
        due.is("up again", x.server(1, 1), 1);
    }

    @Holds("Promise 16: 2 how many letters are held")
    static void serverHolds(Due due) {
        OnceCalls x = busy();
        due.is("one", x.server(0, 2), 1);
        due.is("none", x.server(1, 2), 0);
        due.is("none when it is down", x.server(2, 2), 0);
        due.is("many", holds500().server(0, 2), 500);
    }

    @Holds("Promise 16: 3 records in all buckets (of memory; 0 when it is down)")
    static void recordsOfAServer(Due due) {
        OnceCalls x = busy();
        due.is("in memory, kept or not", x.server(0, 3), 2);
        due.is("none", x.server(1, 3), 0);
        due.is("down, with one that is kept", x.server(2, 3), 0);
        due.is("which is shown in its bucket", x.bucket(2, 5, 3), 1);
        x.start(2);
        due.is("up again", x.server(2, 3), 1);
        OnceCalls y = Steps.twelveRecords();
        Steps.ask(y, 3, 6, 0, 1L, 0L);
        y.move(0, 0, 1);
        due.is("of two buckets, one is leaving", y.server(0, 3), 13);
    }

    @Holds("Promise 16: NONE")
    static void serverNone(Due due) {
        OnceCalls x = busy();
        int[] whats = {-1, 4, 5, 10, MIN, MAX};
        for (int what : whats) {
            due.is("server(0, " + what + ")", x.server(0, what), NONE);
            due.is("server(2, " + what + ")", x.server(2, what), NONE);
        }
        int[] servers = {-1, 3, 4, MIN, MAX};
        for (int server : servers) {
            for (int what = 0; what <= 3; what++) {
                due.is("server(" + server + ", " + what + ")", x.server(server, what), NONE);
            }
        }
    }

    // 17 bucket

    @Holds("Promise 17: what = 0 its STATUS, 1 VERSION, 2 HINT, 3 records")
    static void bucketLooks(Due due) {
        OnceCalls x = busy();
        int[][] looks = {{0, 0, 1, 1, 0, 2}, {0, 3, 1, 1, 0, 0}, {0, 6, 2, 1, 1, 0}, {0, 1, 0, 0, 1, 0},
            {1, 7, 1, 1, 1, 0}, {2, 2, 1, 1, 2, 0}};
        for (int[] look : looks) {
            for (int what = 0; what <= 3; what++) {
                due.is("bucket(" + look[0] + ", " + look[1] + ", " + what + ")", x.bucket(look[0], look[1], what),
                    look[2 + what]);
            }
        }
    }

    @Holds("Promise 17: (what is kept, when it is down)")
    static void bucketOfOneThatIsDown(Due due) {
        OnceCalls x = busy();
        due.is("records that are kept", x.bucket(2, 5, 3), 1);
        due.is("incarnation", x.bucket(2, 5, 10), 1);
        due.is("FIRST that is kept", x.bucket(2, 5, 20), 1);
        due.is("status in memory", x.bucket(0, 6, 0), 2);
        x.move(0, 3, 1);
        due.is("status in memory, not kept", x.bucket(0, 3, 0), 2);
        due.is("records in memory, not kept", x.bucket(0, 0, 3), 2);
        x.crash(0);
        due.is("status that is kept", x.bucket(0, 6, 0), 2);
        due.is("status before", x.bucket(0, 3, 0), 1);
        due.is("hint before", x.bucket(0, 3, 2), 0);
        due.is("records before", x.bucket(0, 0, 3), 1);
        due.is("incarnation before", x.bucket(0, 0, 10), 0);
    }

    @Holds("Promise 17: 10 + c, 20 + c: of client c the incarnation, the FIRST")
    static void bucketOfClients(Due due) {
        OnceCalls x = Steps.opened(2, 100, 5, 4, 3, 2, 1, 0);
        for (int client = 0; client < 6; client++) {
            Steps.ask(x, client, 2, 1, 1L, 0L);
            x.sync(0);
            Steps.deliverLast(x);
            if (client % 2 == 1) {
                x.ack(client, 0);
                Steps.deliverLast(x);
                x.sync(0);
            }
        }
        for (int client = 0; client < 6; client++) {
            due.is("incarnation of " + client, x.bucket(0, 2, 10 + client), 6 - client);
            due.is("FIRST of " + client, x.bucket(0, 2, 20 + client), 1 + client % 2);
        }
    }

    @Holds("Promise 17: NONE")
    static void bucketNone(Due due) {
        OnceCalls x = busy();
        int[] whats = {-1, 4, 9, 16, 19, 26, 30, MIN, MAX};
        for (int what : whats) {
            due.is("bucket(0, 0, " + what + ")", x.bucket(0, 0, what), NONE);
        }
        int[] servers = {-1, 3, 4, MIN, MAX};
        for (int server : servers) {
            due.is("bucket(" + server + ", 0, 0)", x.bucket(server, 0, 0), NONE);
            due.is("bucket(" + server + ", 0, 10)", x.bucket(server, 0, 10), NONE);
        }
        int[] buckets = {-1, 8, 9, MIN, MAX};
        for (int bucket : buckets) {
            due.is("bucket(0, " + bucket + ", 0)", x.bucket(0, bucket, 0), NONE);
            due.is("bucket(0, " + bucket + ", 20)", x.bucket(0, bucket, 20), NONE);
        }
    }

    // 18 value

    @Holds("Promise 18: A key's value there")
    static void valueThere(Due due) {
        OnceCalls x = busy();
        due.is("kept", x.value(0, 0), 4);
        due.is("not kept", x.value(0, 8), 7);
        due.is("at another server", x.value(1, 0), 0);
        due.is("kept, of one that is down", x.value(2, 5), 5);
        due.is("lost, of one that is down", x.value(2, 29), 0);
        x.crash(0);
        due.is("kept, down", x.value(0, 0), 4);
        due.is("not kept, down", x.value(0, 8), 0);
    }

    @Holds("Promise 18: (0 when there is no such server, key)")
    static void valueOfNothing(Due due) {
        OnceCalls x = Steps.opened(2, 10, 0);
        for (int bucket = 0; bucket < 8; bucket++) {
            Steps.finish(x, 0, bucket, 0, 9L, 0L);
            Steps.finish(x, 0, 24 + bucket, 0, 9L, 0L);
        }
        int[] servers = {-1, 2, 3, MIN, MAX};
        for (int server : servers) {
            due.is("value(" + server + ", 0)", x.value(server, 0), 0);
        }
        int[] keys = {-1, 32, -8, -24, 40, MIN, MAX};
        for (int key : keys) {
            due.is("value(0, " + key + ")", x.value(0, key), 0);
            due.is("value(1, " + key + ")", x.value(1, key), 0);
        }
        due.is("the last key", x.value(1, 31), 9);
    }

    // 19 record

    @Holds("Promise 19: what = 0 the client, 1 its incarnation, 2 the number")
    static void recordLooks(Due due) {
        OnceCalls x = busy();
        int[][] looks = {{0, 0, 0, 1, 2, 1}, {0, 0, 1, 0, 1, 3}, {2, 5, 0, 0, 1, 1}};
        for (int[] look : looks) {
            for (int what = 0; what <= 2; what++) {
                due.is("record(" + look[0] + ", " + look[1] + ", " + look[2] + ", " + what + ")",
                    x.record(look[0], look[1], look[2], what), look[3 + what]);
            }
        }
        x.crash(0);
        due.is("kept, down", x.record(0, 0, 0, 0), 1);
        due.is("not kept, down", x.record(0, 0, 1, 0), NONE);
    }

    @Holds("Promise 19: NONE")
    static void recordNone(Due due) {
        OnceCalls x = busy();
        int[] whats = {-1, 3, 4, MIN, MAX};
        for (int what : whats) {
            due.is("record(0, 0, 0, " + what + ")", x.record(0, 0, 0, what), NONE);
        }
        int[] places = {-1, 2, 3, 11, 12, MIN, MAX};
        for (int i : places) {
            due.is("record(0, 0, " + i + ", 0)", x.record(0, 0, i, 0), NONE);
        }
        int[] servers = {-1, 3, 4, MIN, MAX};
        for (int server : servers) {
            due.is("record(" + server + ", 0, 0, 0)", x.record(server, 0, 0, 0), NONE);
        }
        int[] buckets = {-1, 8, 9, MIN, MAX};
        for (int bucket : buckets) {
            due.is("record(0, " + bucket + ", 0, 0)", x.record(0, bucket, 0, 0), NONE);
        }
        due.is("an empty bucket", x.record(0, 3, 0, 0), NONE);
        due.is("a full bucket, the last", Steps.twelveRecords().record(0, 0, 11, 0), 2);
        due.is("a full bucket, one more", Steps.twelveRecords().record(0, 0, 12, 0), NONE);
    }
}
