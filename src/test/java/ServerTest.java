/** Promises 10 (sync), 11 (crash), 12 (start), 14 (collect) and 16 (server). */
public final class ServerTest {
    private static final Due DUE = new Due("ServerTest");

    public static void main(String[] args) {
        wrongServers();
        syncing();
        crashing();
        cleanServersSendAtOnce();
        dirtyServersHoldAll();
        collecting();
        collectingOnlyWhatIsOwned();
        lookingAtServers();
        DUE.end();
    }

    private static void wrongServers() {
        OnceCalls x = new OnceCalls(2, 10);
        int[] wrong = {-1, 2, 4, Integer.MIN_VALUE, Integer.MAX_VALUE};
        for (int s : wrong) {
            DUE.is("sync(" + s + ")", x.sync(s), -1);
            DUE.is("crash(" + s + ")", x.crash(s), -1);
            DUE.is("start(" + s + ")", x.start(s), -1);
            DUE.is("collect(" + s + ")", x.collect(s), -1);
            DUE.is("server(" + s + ", 0)", x.server(s, 0), -1);
        }
        int[] what = {-1, 4, 10, Integer.MIN_VALUE, Integer.MAX_VALUE};
        for (int w : what) {
            DUE.is("server(0, " + w + ")", x.server(0, w), -1);
        }
        DUE.is("start of one that is up", x.start(1), -3);
        DUE.is("crash", x.crash(1), 0);
        DUE.is("crash again", x.crash(1), -3);
        DUE.is("sync", x.sync(1), -3);
        DUE.is("collect", x.collect(1), -3);
        DUE.is("start", x.start(1), 1);
        DUE.is("start again", x.start(1), -3);
    }

    private static OnceCalls threeHeld() {
        OnceCalls x = new OnceCalls(2, 10);
        x.open(0);
        x.open(1);
        x.call(0, 0, 1, 10L, 0L);
        x.call(0, 2, 1, 20L, 0L);
        x.call(1, 0, 1, 1L, 0L);
        x.deliver(0);
        x.deliver(1);
        x.deliver(0);
        return x;
    }

    private static void syncing() {
        OnceCalls x = threeHeld();
        DUE.is("sync of one that holds nothing", x.sync(1), 0);
        DUE.is("held", x.server(0, 2), 3);
        DUE.is("sync", x.sync(0), 3);
        DUE.is("clean", x.server(0, 1), 1);
        DUE.is("none held", x.server(0, 2), 0);
        DUE.is("in order 1", x.letter(0, 1) * 10 + x.letter(0, 4), 1);
        DUE.is("in order 2", x.letter(1, 1) * 10 + x.letter(1, 4), 11);
        DUE.is("in order 3", x.letter(2, 1) * 10 + x.letter(2, 4), 2);
        DUE.is("sync again", x.sync(0), 0);
        DUE.is("letters", x.count(0), 3);
        x.crash(0);
        DUE.is("kept", x.value(0, 0), 11);
        x.start(0);
        DUE.is("there again", x.value(0, 0), 11);
        DUE.is("records, too", x.server(0, 3), 3);
    }

    private static void crashing() {
        OnceCalls x = threeHeld();
        x.sync(0);
        x.retry(0, 1);
        x.move(0, 4, 1);
        x.call(0, 2, 1, 20L, 0L);
        x.deliver(4);
        DUE.is("value", x.value(0, 2), 40);
        DUE.is("crash", x.crash(0), 2);
        DUE.is("lost", x.count(1), 2);
        DUE.is("down", x.server(0, 0), 0);
        DUE.is("not clean when down", x.server(0, 1), 0);
        DUE.is("none held", x.server(0, 2), 0);
        DUE.is("no records when down", x.server(0, 3), 0);
        DUE.is("what is kept is shown", x.value(0, 2), 20);
        DUE.is("its records", x.bucket(0, 2, 3), 1);
        DUE.is("a record", x.record(0, 2, 0, 2), 2);
        DUE.is("the bucket did not leave", x.bucket(0, 4, 0), 1);
        DUE.is("nor has it the hint", x.bucket(0, 4, 2), 0);
        DUE.is("start", x.start(0), 1);
        DUE.is("up", x.server(0, 0), 1);
        DUE.is("clean", x.server(0, 1), 1);
        DUE.is("records", x.server(0, 3), 3);
        x.retry(0, 3);
        x.deliver(4);
        x.sync(0);
        x.deliver(4);
        DUE.is("once", x.result(0, 3), 40);
    }

    private static void cleanServersSendAtOnce() {
        OnceCalls x = threeHeld();
        x.sync(0);
        x.retry(0, 1);
        x.deliver(3);
        DUE.is("what is known goes at once", x.count(0), 4);
        DUE.is("it is an answer", x.letter(3, 0), 2);
        DUE.is("clean still", x.server(0, 1), 1);
        x.ack(0, 0);
        x.deliver(4);
        DUE.is("an ack that tells buckets what they did not know", x.server(0, 1), 0);
        x.sync(0);
        x.ack(0, 0);
        x.deliver(4);
        DUE.is("the same again changes nothing", x.server(0, 1), 1);
        DUE.is("collect of nothing", x.collect(0), 0);
        DUE.is("changes nothing", x.server(0, 1), 1);
        DUE.is("a bucket that leaves", x.move(0, 6, 1), 2);
        DUE.is("is a change", x.server(0, 1), 0);
    }

    private static void dirtyServersHoldAll() {
        OnceCalls x = threeHeld();
        x.call(1, 1, 1, 1L, 0L);
        x.move(1, 1, 0);
        x.sync(1);
        x.deliver(1);
        DUE.is("a taken is held", x.server(0, 2), 4);
        x.ticks(11);
        x.retry(0, 1);
        x.deliver(1);
        DUE.is("an answer 3 is held", x.server(0, 2), 5);
        DUE.is("sync", x.sync(0), 5);
        DUE.is("the taken", x.letter(4, 0), 4);
        DUE.is("the answer", x.letter(5, 5), 3);
    }

    private static void collecting() {
        OnceCalls x = threeHeld();
        x.sync(0);
        DUE.is("all are live", x.collect(0), 0);
        x.ticks(10);
        x.renew(1);
        DUE.is("live to the end", x.collect(0), 0);
        x.ticks(1);
        DUE.is("those of client 0 go", x.collect(0), 2);
        DUE.is("not clean", x.server(0, 1), 0);
        DUE.is("records", x.server(0, 3), 1);
        DUE.is("that of client 1 stays", x.record(0, 0, 0, 0), 1);
        DUE.is("incarnation stays", x.bucket(0, 0, 10), 1);
        DUE.is("FIRST stays", x.bucket(0, 0, 20), 1);
        DUE.is("value stays", x.value(0, 0), 11);
        x.open(1);
        DUE.is("opened anew: the old incarnation goes", x.collect(0), 1);
        DUE.is("again", x.collect(0), 0);
        x.crash(0);
        x.start(0);
        DUE.is("a crash takes it back", x.server(0, 3), 3);
    }

    private static void collectingOnlyWhatIsOwned() {
        OnceCalls x = threeHeld();
        x.move(0, 0, 1);
        x.sync(0);
        x.ticks(11);
        DUE.is("a bucket that leaves keeps its records", x.collect(0), 1);
        DUE.is("two", x.bucket(0, 0, 3), 2);
        DUE.is("counted", x.server(0, 3), 2);
    }

    private static void lookingAtServers() {
        OnceCalls x = threeHeld();
        DUE.is("up", x.server(0, 0), 1);
        DUE.is("clean", x.server(0, 1), 0);
        DUE.is("held", x.server(0, 2), 3);
        DUE.is("records", x.server(0, 3), 3);
        DUE.is("the other is clean", x.server(1, 1), 1);
    }
}
