/** What servers do with 1 REQUEST and 5 ACK: acts, what is KNOWN, and the order of the answers (promises 4 to 7). */
public final class RequestTest {
    private static final Due DUE = new Due("RequestTest");

    public static void main(String[] args) {
        acts();
        onceOnly();
        numbersBelowFirst();
        firstThatRises();
        newIncarnation();
        twelveRecords();
        orderOfAnswers();
        acksOnlyWhereOwned();
        lateAcks();
        DUE.end();
    }

    /** One call to the end, by the server that it goes to. */
    private static long done(OnceCalls x, int key, int act, long a, long b) {
        int number = x.call(0, key, act, a, b);
        int last = x.count(0) - 1;
        int server = x.letter(last, 1);
        x.deliver(last);
        x.sync(server);
        x.deliver(last);
        DUE.is("state", x.state(0, number), 1);
        return x.result(0, number);
    }

    private static void acts() {
        OnceCalls x = new OnceCalls(4, 100);
        x.open(0);
        DUE.is("put", done(x, 31, 0, 5L, 77L), 0);
        DUE.is("put again", done(x, 31, 0, -6L, 77L), 5);
        DUE.is("add", done(x, 31, 1, 10L, 77L), 4);
        DUE.is("mul", done(x, 31, 3, -3L, 77L), -12);
        DUE.is("take of another value", done(x, 31, 2, 12L, 1L), 0);
        DUE.is("value stays", x.value(3, 31), -12);
        DUE.is("take", done(x, 31, 2, -12L, Long.MAX_VALUE), 1);
        DUE.is("value", x.value(3, 31), Long.MAX_VALUE);
        DUE.is("add runs over", done(x, 31, 1, 1L, 0L), Long.MIN_VALUE);
        DUE.is("mul runs over", done(x, 31, 3, -1L, 0L), Long.MIN_VALUE);
        DUE.is("mul by much", done(x, 31, 3, 2L, 0L), 0);
        DUE.is("put of the least", done(x, 31, 0, Long.MIN_VALUE, 0L), 0);
        DUE.is("a result of 64 bits", done(x, 31, 0, 1L << 40, 0L), Long.MIN_VALUE);
        DUE.is("and another", done(x, 31, 1, 1L, 0L), (1L << 40) + 1);
        DUE.is("other keys of the bucket", x.value(3, 7) + x.value(3, 15) + x.value(3, 23), 0);
    }

    private static void onceOnly() {
        OnceCalls x = new OnceCalls(2, 100);
        x.open(0);
        x.call(0, 0, 1, 5L, 0L);
        x.call(0, 8, 1, 6L, 0L);
        x.twin(0);
        x.retry(0, 1);
        x.deliver(0);
        x.deliver(0);
        x.deliver(0);
        x.deliver(0);
        DUE.is("effects", x.count(2), 2);
        DUE.is("value", x.value(0, 0), 5);
        DUE.is("records", x.bucket(0, 0, 3), 2);
        DUE.is("answers", x.sync(0), 4);
        x.drop(0);
        x.deliver(1);
        DUE.is("the result of the second answer", x.result(0, 1), 5);
    }

    private static void numbersBelowFirst() {
        OnceCalls x = new OnceCalls(2, 100);
        x.open(0);
        x.call(0, 0, 1, 5L, 0L);
        x.twin(0);
        x.deliver(0);
        x.sync(0);
        x.deliver(1);
        x.ack(0, 0);
        x.deliver(1);
        DUE.is("record is let go", x.bucket(0, 0, 3), 0);
        x.sync(0);
        x.deliver(0);
        DUE.is("a late twin", x.letter(0, 5), 4);
        DUE.is("no effect", x.count(2), 1);
        DUE.is("clean", x.server(0, 1), 1);
        x.call(0, 0, 1, 5L, 0L);
        DUE.is("answer 4 comes", x.deliver(0), 2);
        DUE.is("and tells nothing", x.state(0, 1), 1);
    }

    private static void firstThatRises() {
        OnceCalls x = new OnceCalls(2, 100);
        x.open(0);
        x.open(1);
        x.call(0, 0, 1, 1L, 0L);
        x.call(0, 0, 1, 2L, 0L);
        x.call(1, 0, 1, 4L, 0L);
        x.call(0, 0, 1, 8L, 0L);
        for (int i = 0; i < 4; i++) {
            x.deliver(0);
        }
        x.sync(0);
        x.deliver(0);
        x.deliver(0);
        x.call(0, 0, 1, 16L, 0L);
        DUE.is("FIRST", x.letter(2, 5), 3);
        x.deliver(2);
        DUE.is("FIRST there", x.bucket(0, 0, 20), 3);
        DUE.is("of the other client", x.bucket(0, 0, 21), 1);
        DUE.is("records", x.bucket(0, 0, 3), 3);
        int[][] left = {{1, 1}, {0, 3}, {0, 4}};
        for (int i = 0; i < 3; i++) {
            DUE.is("client of " + i, x.record(0, 0, i, 0), left[i][0]);
            DUE.is("number of " + i, x.record(0, 0, i, 2), left[i][1]);
        }
        x.retry(1, 1);
        x.sync(0);
        x.deliver(2);
        x.deliver(x.count(0) - 1);
        DUE.is("results move up with their records", x.result(1, 1), 7);
    }

    private static void newIncarnation() {
        OnceCalls x = new OnceCalls(2, 100);
        x.open(0);
        x.open(1);
        x.call(0, 0, 1, 1L, 0L);
        x.call(1, 0, 1, 2L, 0L);
        x.call(0, 0, 1, 4L, 0L);
        x.twin(2);
        for (int i = 0; i < 3; i++) {
            x.deliver(0);
        }
        x.sync(0);
        x.open(0);
        DUE.is("an old request", x.deliver(0), 1);
        DUE.is("answer 3", x.letter(3, 5), 3);
        DUE.is("of the old incarnation", x.letter(3, 3), 1);
        x.call(0, 0, 1, 8L, 0L);
        DUE.is("an old answer", x.deliver(0), 2);
        DUE.is("the new call waits", x.state(0, 1), 0);
        DUE.is("the answer 3", x.deliver(2), 2);
        DUE.is("does not refuse it", x.state(0, 1), 0);
        x.deliver(2);
        DUE.is("incarnation there", x.bucket(0, 0, 10), 3);
        DUE.is("FIRST there", x.bucket(0, 0, 20), 1);
        DUE.is("records", x.bucket(0, 0, 3), 2);
        DUE.is("that of the other stays", x.record(0, 0, 0, 0), 1);
        DUE.is("behind it the new", x.record(0, 0, 1, 1), 3);
        DUE.is("value", x.value(0, 0), 15);
    }

    private static OnceCalls fullBucket() {
        OnceCalls x = new OnceCalls(2, 100);
        for (int c = 0; c < 4; c++) {
            x.open(c);
            for (int n = 0; n < (c == 3 ? 4 : 3); n++) {
                x.call(c, 0, 1, 1L, 0L);
            }
        }
        for (int i = 0; i < 12; i++) {
            x.deliver(0);
        }
        return x;
    }

    private static void twelveRecords() {
        OnceCalls x = fullBucket();
        DUE.is("records", x.bucket(0, 0, 3), 12);
        x.sync(0);
        DUE.is("one too many", x.deliver(0), 1);
        DUE.is("is answered at once", x.letter(12, 5), 2);
        DUE.is("and takes no effect", x.value(0, 0), 12);
        x.open(5);
        x.call(5, 0, 1, 1L, 0L);
        x.deliver(x.count(0) - 1);
        DUE.is("what it tells is known", x.bucket(0, 0, 15), 5);
        DUE.is("so it is not clean", x.server(0, 1), 0);
        DUE.is("records still", x.bucket(0, 0, 3), 12);
        x.sync(0);
        x.retry(5, 1);
        x.deliver(x.count(0) - 1);
        DUE.is("then it is, and the answer goes", x.letter(x.count(0) - 1, 5), 2);
        DUE.is("clean", x.server(0, 1), 1);
        DUE.is("effects", x.count(2), 12);
        x.retry(1, 2);
        x.deliver(x.count(0) - 1);
        DUE.is("what has a record is answered", x.letter(x.count(0) - 1, 5), 0);
        x.open(2);
        x.call(2, 0, 1, 1L, 0L);
        x.deliver(x.count(0) - 1);
        DUE.is("a new incarnation makes room", x.bucket(0, 0, 3), 10);
        x.retry(5, 1);
        x.deliver(x.count(0) - 1);
        DUE.is("room for this one", x.bucket(0, 0, 3), 11);
        DUE.is("value", x.value(0, 0), 14);
    }

    private static void orderOfAnswers() {
        OnceCalls x = new OnceCalls(2, 10);
        x.open(0);
        x.open(1);
        x.call(0, 0, 1, 1L, 0L);
        x.deliver(0);
        x.call(0, 0, 1, 1L, 0L);
        x.call(1, 0, 1, 1L, 0L);
        x.twin(1);
        x.move(0, 0, 1);
        x.sync(0);
        DUE.is("leaving: 2, before what is known", leavingAnswer(x), 2);
        x.ticks(11);
        x.deliver(0);
        DUE.is("not live comes before leaving", x.letter(x.count(0) - 1, 5), 3);
        DUE.is("nothing is known of 1 there", x.bucket(0, 0, 11), 0);
        OnceCalls y = new OnceCalls(2, 10);
        y.open(0);
        y.move(0, 0, 1);
        y.sync(0);
        y.deliver(0);
        y.sync(1);
        y.deliver(0);
        y.sync(0);
        y.call(0, 0, 1, 1L, 0L);
        y.twin(0);
        y.deliver(0);
        DUE.is("not here", y.letter(1, 5), 1);
        DUE.is("nothing is known there", y.bucket(0, 0, 10), 0);
        y.ticks(11);
        y.deliver(0);
        DUE.is("not live comes before not here", y.letter(1, 5), 3);
    }

    private static int leavingAnswer(OnceCalls x) {
        x.deliver(1);
        return x.letter(x.count(0) - 1, 5);
    }

    private static void acksOnlyWhereOwned() {
        OnceCalls x = new OnceCalls(2, 100);
        x.open(0);
        x.call(0, 0, 1, 1L, 0L);
        x.call(0, 2, 1, 1L, 0L);
        x.deliver(0);
        x.deliver(0);
        x.move(0, 2, 1);
        x.sync(0);
        x.deliver(0);
        x.deliver(0);
        DUE.is("ack", x.ack(0, 0), 3);
        x.deliver(1);
        for (int b = 0; b < 8; b++) {
            boolean owned = b % 2 == 0 && b != 2;
            DUE.is("incarnation at " + b, x.bucket(0, b, 10), owned || b == 2 ? 1 : 0);
            DUE.is("FIRST at " + b, x.bucket(0, b, 20), owned ? 3 : b == 2 ? 1 : 0);
        }
        DUE.is("records of 0", x.bucket(0, 0, 3), 0);
        DUE.is("records of 2", x.bucket(0, 2, 3), 1);
        DUE.is("nothing goes back", x.server(0, 2), 0);
        DUE.is("letters", x.count(0), 1);
        DUE.is("nothing at the other server", x.bucket(1, 1, 10), 0);
    }

    private static void lateAcks() {
        OnceCalls x = new OnceCalls(2, 10);
        x.open(0);
        x.call(0, 0, 1, 1L, 0L);
        x.ack(0, 0);
        x.deliver(0);
        x.sync(0);
        x.deliver(1);
        x.ack(0, 0);
        DUE.is("FIRST 1, late", x.letter(0, 4), 1);
        DUE.is("FIRST 2", x.letter(1, 4), 2);
        x.deliver(1);
        DUE.is("FIRST there", x.bucket(0, 0, 20), 2);
        x.sync(0);
        x.deliver(0);
        DUE.is("does not fall", x.bucket(0, 0, 20), 2);
        DUE.is("clean", x.server(0, 1), 1);
        x.ack(0, 0);
        x.open(0);
        x.call(0, 0, 1, 1L, 0L);
        x.deliver(1);
        DUE.is("new incarnation", x.bucket(0, 0, 10) * 10 + x.bucket(0, 0, 20), 21);
        x.deliver(0);
        DUE.is("an ack of the old one changes nothing", x.bucket(0, 0, 10) * 10 + x.bucket(0, 0, 20), 21);
        DUE.is("record stays", x.bucket(0, 0, 3), 1);
        x.ack(0, 1);
        x.ticks(11);
        x.deliver(0);
        DUE.is("an ack counts when the lease is over", x.bucket(1, 1, 10), 2);
    }
}
