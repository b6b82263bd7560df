/** Promises 13 (move), 17 (bucket), 18 (value) and 19 (record), and what servers do with 3 MOVE and 4 TAKEN. */
public final class BucketTest {
    private static final Due DUE = new Due("BucketTest");

    public static void main(String[] args) {
        movingWrongly();
        moving();
        movingOn();
        lateAndDoubledMoves();
        lateTaken();
        movesAndCrashes();
        lookingAtBuckets();
        DUE.end();
    }

    private static void movingWrongly() {
        OnceCalls x = new OnceCalls(3, 10);
        int[][] none = {{-1, 0, 1}, {3, 0, 1}, {0, -1, 1}, {0, 8, 1}, {0, 0, -1}, {0, 0, 3},
            {Integer.MIN_VALUE, 0, 0}, {0, Integer.MAX_VALUE, 0}, {0, 0, Integer.MAX_VALUE}};
        for (int[] n : none) {
            DUE.is("move", x.move(n[0], n[1], n[2]), -1);
        }
        DUE.is("to itself", x.move(0, 0, 0), -3);
        DUE.is("not there", x.move(0, 1, 1), -3);
        DUE.is("not there, to itself", x.move(0, 1, 0), -3);
        x.crash(0);
        DUE.is("down", x.move(0, 0, 1), -3);
        DUE.is("down, NONE first", x.move(0, 8, 1), -1);
        x.start(0);
        DUE.is("clean still", x.server(0, 1), 1);
        x.move(0, 0, 1);
        DUE.is("leaving to another", x.move(0, 0, 2), -3);
        DUE.is("leaving, to itself", x.move(0, 0, 0), -3);
        DUE.is("hint stays", x.bucket(0, 0, 2), 1);
        DUE.is("to a server that is down", moveToOneThatIsDown(), 2);
    }

    private static int moveToOneThatIsDown() {
        OnceCalls x = new OnceCalls(3, 10);
        x.crash(1);
        return x.move(0, 0, 1);
    }

    private static OnceCalls bucketWithRecords() {
        OnceCalls x = new OnceCalls(3, 100);
        x.open(5);
        x.open(3);
        x.call(3, 8, 1, 7L, 0L);
        x.call(5, 24, 0, 6L, 0L);
        x.call(3, 0, 1, 5L, 0L);
        for (int i = 0; i < 3; i++) {
            x.deliver(0);
        }
        x.sync(0);
        return x;
    }

    private static void bucketIs(String name, OnceCalls x, int server, int... parts) {
        for (int what = 0; what < parts.length; what++) {
            DUE.is(name + ", bucket(" + server + ", 0, " + what + ")", x.bucket(server, 0, what), parts[what]);
        }
    }

    private static void moving() {
        OnceCalls x = bucketWithRecords();
        DUE.is("move", x.move(0, 0, 2), 2);
        bucketIs("leaving", x, 0, 2, 1, 2, 3);
        DUE.is("held", x.server(0, 2), 1);
        DUE.is("move again", x.move(0, 0, 2), 2);
        DUE.is("held, too", x.server(0, 2), 2);
        x.sync(0);
        DUE.is("move again, clean", x.move(0, 0, 2), 2);
        DUE.is("goes at once", x.count(0), 6);
        DUE.is("deliver", x.deliver(3), 3);
        bucketIs("came", x, 2, 1, 2, 2, 3);
        DUE.is("clients", x.bucket(2, 0, 13) * 10 + x.bucket(2, 0, 15), 21);
        DUE.is("FIRSTS", x.bucket(2, 0, 23) * 10 + x.bucket(2, 0, 25), 11);
        DUE.is("value 0", x.value(2, 0), 5);
        DUE.is("value 8", x.value(2, 8), 7);
        DUE.is("value 16", x.value(2, 16), 0);
        DUE.is("value 24", x.value(2, 24), 6);
        for (int i = 0; i < 3; i++) {
            for (int what = 0; what < 3; what++) {
                DUE.is("record " + i, x.record(2, 0, i, what), x.record(0, 0, i, what));
            }
        }
        DUE.is("not clean", x.server(2, 1), 0);
        x.sync(2);
        DUE.is("taken", x.deliver(5), 4);
        bucketIs("gone", x, 0, 0, 2, 2, 0);
        DUE.is("no incarnations", x.bucket(0, 0, 13) + x.bucket(0, 0, 15), 0);
        DUE.is("no FIRSTS", x.bucket(0, 0, 23) + x.bucket(0, 0, 25), 0);
        DUE.is("no values", x.value(0, 0) + x.value(0, 8) + x.value(0, 24), 0);
        DUE.is("not clean", x.server(0, 1), 0);
        DUE.is("not there any more", x.move(0, 0, 2), -3);
        resultsCameAlong(x);
    }

    private static void resultsCameAlong(OnceCalls x) {
        x.sync(0);
        x.retry(3, 1);
        int last = x.count(0) - 1;
        x.deliver(last);
        DUE.is("answer 1", x.letter(last, 5), 1);
        x.deliver(last);
        DUE.is("guess", x.client(3, 10), 2);
        x.retry(3, 1);
        x.deliver(last);
        DUE.is("clean, so it goes at once", x.letter(last, 5), 0);
        x.deliver(last);
        DUE.is("the first result", x.result(3, 1), 7);
        DUE.is("effects", x.count(2), 3);
        DUE.is("value", x.value(2, 8), 7);
        x.open(3);
        DUE.is("the guess stays when opened anew", x.client(3, 10), 2);
    }

    private static void movingOn() {
        OnceCalls x = new OnceCalls(2, 10);
        x.move(0, 0, 1);
        x.sync(0);
        x.deliver(0);
        DUE.is("on at once", x.move(1, 0, 0), 3);
        DUE.is("both held", x.sync(1), 2);
        DUE.is("first the taken", x.letter(0, 0) * 10 + x.letter(0, 3), 42);
        DUE.is("then the move", x.letter(1, 0) * 10 + x.letter(1, 3), 33);
        DUE.is("comes to one that still leaves", x.deliver(1), 3);
        bucketIs("owned again", x, 0, 1, 3, 0, 0);
        DUE.is("the late taken", x.deliver(0), 4);
        bucketIs("changes nothing", x, 0, 1, 3, 0, 0);
        x.sync(0);
        DUE.is("taken", x.deliver(0), 4);
        bucketIs("gone", x, 1, 0, 3, 0, 0);
    }

    private static void lateAndDoubledMoves() {
        OnceCalls x = bucketWithRecords();
        x.move(0, 0, 1);
        x.sync(0);
        x.twin(3);
        x.deliver(3);
        x.sync(1);
        x.call(5, 0, 0, 99L, 0L);
        x.drop(5);
        DUE.is("the doubled move", x.deliver(3), 3);
        DUE.is("taken goes at once, for it changed nothing", x.server(1, 2), 0);
        DUE.is("taken", x.letter(4, 0) * 100 + x.letter(4, 1) * 10 + x.letter(4, 3), 402);
        x.deliver(3);
        DUE.is("taken twice", x.deliver(3), 4);
        bucketIs("gone", x, 0, 0, 2, 1, 0);
        x.sync(0);
        x.move(1, 0, 2);
        x.sync(1);
        x.move(1, 0, 2);
        x.deliver(3);
        x.sync(2);
        x.move(2, 0, 1);
        x.sync(2);
        DUE.is("the late taken 3", x.letter(4, 3), 3);
        DUE.is("goes first", x.deliver(4), 4);
        x.sync(1);
        DUE.is("back with 4", x.deliver(4), 3);
        bucketIs("back", x, 1, 1, 4, 1, 3);
        x.sync(1);
        x.deliver(4);
        bucketIs("gone from 2", x, 2, 0, 4, 1, 0);
        DUE.is("the late move 3", x.deliver(3), 3);
        bucketIs("does not come back", x, 2, 0, 4, 1, 0);
    }

    private static void lateTaken() {
        OnceCalls x = new OnceCalls(2, 10);
        x.move(0, 0, 1);
        x.sync(0);
        x.deliver(0);
        x.sync(1);
        x.twin(0);
        x.deliver(0);
        x.sync(0);
        x.move(1, 0, 0);
        x.sync(1);
        x.deliver(1);
        x.sync(0);
        x.deliver(1);
        x.move(0, 0, 1);
        bucketIs("leaving with 3", x, 0, 2, 3, 1, 0);
        DUE.is("taken of 2 comes late", x.deliver(0), 4);
        bucketIs("leaving on", x, 0, 2, 3, 1, 0);
    }

    private static void movesAndCrashes() {
        OnceCalls x = bucketWithRecords();
        x.move(0, 0, 1);
        DUE.is("the move is lost", x.crash(0), 1);
        x.start(0);
        bucketIs("owned", x, 0, 1, 1, 0, 3);
        x.move(0, 0, 1);
        x.sync(0);
        x.twin(3);
        x.deliver(3);
        DUE.is("the taken is lost", x.crash(1), 1);
        bucketIs("not there", x, 1, 0, 0, 0, 0);
        x.start(1);
        DUE.is("the twin", x.deliver(3), 3);
        bucketIs("there", x, 1, 1, 2, 1, 3);
        x.sync(1);
        x.crash(1);
        bucketIs("kept", x, 1, 1, 2, 1, 3);
        DUE.is("a record kept", x.record(1, 0, 2, 1), 2);
        DUE.is("a value kept", x.value(1, 24), 6);
        x.deliver(3);
        bucketIs("gone, but not kept", x, 0, 0, 2, 1, 0);
        x.crash(0);
        bucketIs("leaving is what is kept", x, 0, 2, 1, 1, 3);
        DUE.is("values are kept", x.value(0, 8), 7);
    }

    private static void lookingAtBuckets() {
        OnceCalls x = bucketWithRecords();
        int[] wrong = {-1, 3, 8, Integer.MIN_VALUE, Integer.MAX_VALUE};
        for (int w : wrong) {
            DUE.is("bucket(w, 0, 0)", x.bucket(w, 0, 0), -1);
            DUE.is("record(w, 0, 0, 0)", x.record(w, 0, 0, 0), -1);
            DUE.is("value(w, 0)", x.value(w, 0), 0);
            DUE.is("bucket(0, w, 0)", x.bucket(0, w == 3 ? 9 : w, 0), -1);
            DUE.is("record(0, w, 0, 0)", x.record(0, w == 3 ? 9 : w, 0, 0), -1);
            DUE.is("record(0, 0, w, 0)", x.record(0, 0, w, 0), -1);
            DUE.is("record(0, 0, 0, w)", x.record(0, 0, 0, w), -1);
        }
        int[] what = {-1, 4, 9, 16, 19, 26, 30, Integer.MIN_VALUE, Integer.MAX_VALUE};
        for (int w : what) {
            DUE.is("bucket(0, 0, " + w + ")", x.bucket(0, 0, w), -1);
        }
        DUE.is("value(0, -1)", x.value(0, -1), 0);
        DUE.is("value(0, 32)", x.value(0, 32), 0);
        DUE.is("value(0, MIN)", x.value(0, Integer.MIN_VALUE), 0);
        bucketIs("owned", x, 0, 1, 1, 0, 3);
        DUE.is("values", x.value(0, 0) * 100 + x.value(0, 8) * 10 + x.value(0, 24), 576);
        DUE.is("elsewhere 0", x.value(1, 8), 0);
        int[][] records = {{3, 2, 1}, {5, 1, 1}, {3, 2, 2}};
        for (int i = 0; i < 3; i++) {
            for (int w = 0; w < 3; w++) {
                DUE.is("record(0, 0, " + i + ", " + w + ")", x.record(0, 0, i, w), records[i][w]);
            }
        }
        DUE.is("incarnation of 5", x.bucket(0, 0, 15), 1);
        DUE.is("FIRST of 5", x.bucket(0, 0, 25), 1);
        DUE.is("of another", x.bucket(0, 0, 10) + x.bucket(0, 0, 20), 0);
    }
}
