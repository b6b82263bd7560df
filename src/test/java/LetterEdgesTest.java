/** The edges that promises 7 to 9, 23 and 24 name: letters in the row, and what is counted. */
public final class LetterEdgesTest {
    private static final int NONE = -1, FULL = -2;
    private static final int MIN = Integer.MIN_VALUE, MAX = Integer.MAX_VALUE;

    public static void main(String[] args) {
        Edges.run(LetterEdgesTest.class);
    }

    /** Three servers; the row has one letter of each kind, 1 to 5 in this order, each of clients 3 and servers 1, 2. */
    private static OnceCalls oneOfEachKind() {
        OnceCalls x = Steps.opened(3, 100, 0, 3);
        x.call(3, 2, 1, 1L, 0L);
        Steps.finish(x, 3, 1, 1, 1L, 0L);
        Steps.ask(x, 3, 1, 1, 1L, 0L);
        x.sync(1);
        x.move(2, 5, 1);
        x.sync(2);
        x.twin(2);
        x.deliver(3);
        x.sync(1);
        x.ack(3, 2);
        return x;
    }

    private static OnceCalls fullRow() {
        OnceCalls x = Steps.opened(2, 100, 0);
        x.call(0, 0, 1, 1L, 0L);
        Steps.fillRow(x);
        return x;
    }

    // 7 deliver

    @Holds("Promise 7: Letter i comes (and is no more in the row): its kind")
    static void deliverOfEachKind(Due due) {
        for (int i = 0; i < 5; i++) {
            OnceCalls x = oneOfEachKind();
            due.is("letters before", x.count(0), 5);
            due.is("deliver(" + i + ")", x.deliver(i), i + 1);
            due.is("the next comes up", x.letter(i, 0), i < 4 ? i + 2 : NONE);
            due.is("letters, with a TAKEN that goes back at once", x.count(0), i == 2 ? 5 : 4);
            due.is("nothing is lost", x.count(1), 0);
        }
    }

    @Holds("Promise 7: the first, one in the middle and the last of the row")
    static void deliverByPlace(Due due) {
        OnceCalls x = Steps.opened(2, 100, 0);
        for (int n = 1; n <= 4; n++) {
            x.call(0, n, 0, 10L * n, 0L);
        }
        due.is("the last", x.deliver(3), 1);
        due.is("its value", x.value(0, 4), 40);
        due.is("one in the middle", x.deliver(1), 1);
        due.is("its value", x.value(0, 2), 20);
        due.is("the first", x.deliver(0), 1);
        due.is("its value", x.value(1, 1), 10);
        due.is("letters", x.count(0), 1);
        due.is("the number of what is left", x.letter(0, 4), 3);
    }

    @Holds("Promise 7: 10 more when it is lost because the server is down")
    static void deliverToOneThatIsDown(Due due) {
        int[] answers = {11, 2, 13, 14, 15};
        for (int i = 0; i < 5; i++) {
            OnceCalls x = oneOfEachKind();
            for (int server = 0; server < 3; server++) {
                x.crash(server);
            }
            due.is("deliver(" + i + ")", x.deliver(i), answers[i]);
            due.is("lost", x.count(1), i == 1 ? 0 : 1);
            due.is("letters", x.count(0), 4);
            due.is("it is no more in the row", x.letter(i, 0), i < 4 ? i + 2 : NONE);
            for (int server = 0; server < 3; server++) {
                x.start(server);
            }
            due.is("the request had no effect", x.value(2, 2), 0);
            due.is("the move did not come", x.bucket(2, 5, 0), 2);
            due.is("the ack was not heard", x.bucket(2, 2, 13), 0);
        }
    }

    @Holds("Promise 7: a letter to a server that is up, while the others are down")
    static void deliverWhileOthersAreDown(Due due) {
        OnceCalls x = oneOfEachKind();
        x.crash(0);
        x.crash(1);
        due.is("a request to 2", x.deliver(0), 1);
        due.is("a move to 1", x.deliver(1), 13);
        due.is("a taken to 2", x.deliver(1), 4);
    }

    @Holds("Promise 7: NONE (and what is refused changes nothing)")
    static void deliverNone(Due due) {
        int[] wrong = {-1, 5, 6, 399, 400, MIN, MAX};
        for (int i : wrong) {
            due.is("deliver(" + i + ")", oneOfEachKind().deliver(i), NONE);
            Looks.same(due, "deliver(" + i + ")", LetterEdgesTest::oneOfEachKind, x -> x.deliver(i));
        }
        due.is("in an empty row", new OnceCalls(2, 10).deliver(0), NONE);
        due.is("behind a full row", fullRow().deliver(400), NONE);
        due.is("the last of a full row", fullRow().deliver(399), 1);
    }

    // 8 drop

    @Holds("Promise 8: Letter i is lost: its kind")
    static void dropOfEachKind(Due due) {
        for (int i = 0; i < 5; i++) {
            OnceCalls x = oneOfEachKind();
            due.is("drop(" + i + ")", x.drop(i), i + 1);
            due.is("letters", x.count(0), 4);
            due.is("lost", x.count(1), 1);
            due.is("the next comes up", x.letter(i, 0), i < 4 ? i + 2 : NONE);
            due.is("effects", x.count(2), 2);
            due.is("DONE", x.count(3), 1);
        }
    }

    @Holds("Promise 8: a letter to a server that is down is lost all the same")
    static void dropToOneThatIsDown(Due due) {
        OnceCalls x = oneOfEachKind();
        x.crash(2);
        due.is("no 10 more", x.drop(0), 1);
        due.is("lost", x.count(1), 1);
    }

    @Holds("Promise 8: NONE (and what is refused changes nothing)")
    static void dropNone(Due due) {
        int[] wrong = {-1, 5, 6, 399, 400, MIN, MAX};
        for (int i : wrong) {
            due.is("drop(" + i + ")", oneOfEachKind().drop(i), NONE);
            Looks.same(due, "drop(" + i + ")", LetterEdgesTest::oneOfEachKind, x -> x.drop(i));
        }
        due.is("in an empty row", new OnceCalls(2, 10).drop(0), NONE);
        due.is("behind a full row", fullRow().drop(400), NONE);
        due.is("the last of a full row", fullRow().drop(399), 1);
    }

    // 9 twin

    @Holds("Promise 9: One like letter i comes behind all: its kind")
    static void twinOfEachKind(Due due) {
        for (int i = 0; i < 5; i++) {
            OnceCalls x = oneOfEachKind();
            due.is("twin(" + i + ")", x.twin(i), i + 1);
            due.is("letters", x.count(0), 6);
            for (int what = 0; what <= 5; what++) {
                due.is("like letter " + i + ", " + what, x.letter(5, what), x.letter(i, what));
            }
            due.is("letter " + i + " stays where it was", x.letter(i, 0), i + 1);
        }
    }

    @Holds("Promise 9: One like letter i (with all that it takes along)")
    static void twinTakesAllAlong(Due due) {
        OnceCalls x = Steps.opened(2, 100, 0);
        Steps.finish(x, 0, 0, 0, 6L, 0L);
        x.move(0, 0, 1);
        x.sync(0);
        x.twin(0);
        x.drop(0);
        x.deliver(0);
        due.is("value", x.value(1, 0), 6);
        due.is("record", x.record(1, 0, 0, 2), 1);
        OnceCalls y = Steps.opened(2, 100, 0);
        y.call(0, 0, 0, 6L, 0L);
        y.twin(0);
        y.twin(1);
        y.drop(0);
        y.drop(0);
        y.deliver(0);
        due.is("a twin of a twin", y.value(0, 0), 6);
    }

    @Holds("Promise 9: NONE (and what is refused changes nothing)")
    static void twinNone(Due due) {
        int[] wrong = {-1, 5, 6, 399, 400, MIN, MAX};
        for (int i : wrong) {
            due.is("twin(" + i + ")", oneOfEachKind().twin(i), NONE);
            Looks.same(due, "twin(" + i + ")", LetterEdgesTest::oneOfEachKind, x -> x.twin(i));
        }
        due.is("in an empty row", new OnceCalls(2, 10).twin(0), NONE);
    }

    @Holds("Promise 9: FULL: there are 400")
    static void twinInAFullRow(Due due) {
        OnceCalls x = fullRow();
        due.is("letters", x.count(0), 400);
        due.is("twin(0)", x.twin(0), FULL);
        due.is("twin(399)", x.twin(399), FULL);
        due.is("it is no letter that was lost", x.count(1), 0);
        x.drop(7);
        due.is("with 399 there is room", x.twin(398), 1);
        due.is("letters then", x.count(0), 400);
        Looks.same(due, "twin(0)", LetterEdgesTest::fullRow, y -> y.twin(0));
    }

    @Holds("Terms: NONE, -1, answers for what is not there (first of all): before FULL, in twin")
    static void noneComesFirstInTwin(Due due) {
        OnceCalls x = fullRow();
        due.is("twin(400)", x.twin(400), NONE);
        due.is("twin(-1)", x.twin(-1), NONE);
    }

    // 23 letter

    private static void shown(Due due, String name, int i, int... parts) {
        OnceCalls x = oneOfEachKind();
        for (int what = 0; what <= 5; what++) {
            due.is(name + ", letter(" + i + ", " + what + ")", x.letter(i, what), parts[what]);
        }
    }

    @Holds("Promise 23: of 1: who it is for, the client, incarnation, number, FIRST")
    static void letterOfARequest(Due due) {
        shown(due, "request", 0, 1, 2, 3, 2, 1, 1);
    }

    @Holds("Promise 23: of 2: who it is for (a client), the server from which it comes, incarnation, number, code")
    static void letterOfAnAnswer(Due due) {
        shown(due, "answer", 1, 2, 3, 1, 2, 3, 0);
    }

    @Holds("Promise 23: of 3: who it is for, the server from which it comes, version, bucket, records")
    static void letterOfAMove(Due due) {
        shown(due, "move", 2, 3, 1, 2, 2, 5, 0);
        OnceCalls x = Steps.twelveRecords();
        x.move(0, 0, 1);
        x.sync(0);
        due.is("with 12 records", x.letter(0, 5), 12);
    }

    @Holds("Promise 23: 5 .. records (3): as they were when it was sent")
    static void letterOfAMoveThatIsLate(Due due) {
        OnceCalls x = Steps.opened(2, 100, 0);
        Steps.finish(x, 0, 0, 1, 1L, 0L);
        x.move(0, 0, 1);
        x.sync(0);
        x.twin(0);
        x.deliver(1);
        x.sync(1);
        x.deliver(1);
        due.is("none are at the server any more", x.bucket(0, 0, 3), 0);
        due.is("the late move still tells", x.letter(0, 5), 1);
        due.is("and its version", x.letter(0, 3), 2);
    }

    @Holds("Promise 23: of 4: who it is for, the server from which it comes, version, bucket, else 0")
    static void letterOfATaken(Due due) {
        shown(due, "taken", 3, 4, 2, 1, 2, 5, 0);
        OnceCalls x = Steps.twelveRecords();
        x.move(0, 0, 1);
        x.sync(0);
        x.deliver(0);
        x.sync(1);
        due.is("TAKEN of a bucket with records", x.letter(0, 0), 4);
        due.is("tells none", x.letter(0, 5), 0);
    }

    @Holds("Promise 23: of 5: who it is for, the client, incarnation, FIRST, else 0")
    static void letterOfAnAck(Due due) {
        shown(due, "ack", 4, 5, 2, 3, 2, 1, 0);
        OnceCalls x = Steps.opened(2, 100, 0);
        Steps.finish(x, 0, 0, 1, 1L, 0L);
        x.ack(0, 1);
        due.is("FIRST", x.letter(0, 4), 2);
        due.is("else 0", x.letter(0, 5), 0);
    }

    @Holds("Promise 23: 5 .. code (2)")
    static void letterOfEachCode(Due due) {
        OnceCalls x = Steps.opened(2, 10, 0);
        Steps.moveOver(x, 0, 0, 1);
        Steps.ask(x, 0, 0, 1, 1L, 0L);
        due.is("1", Steps.last(x, 5), 1);
        x.move(0, 2, 1);
        x.sync(0);
        Steps.ask(x, 0, 2, 1, 1L, 0L);
        due.is("2", Steps.last(x, 5), 2);
        x.ticks(11);
        due.is("3", Steps.codeOfRetry(x, 0, 2), 3);
        OnceCalls y = Steps.opened(2, 10, 0);
        y.call(0, 0, 1, 1L, 0L);
        y.twin(0);
        y.deliver(0);
        y.sync(0);
        due.is("0", y.letter(1, 5), 0);
        y.deliver(1);
        y.ack(0, 0);
        y.deliver(1);
        y.sync(0);
        y.deliver(0);
        due.is("4", y.letter(0, 5), 4);
    }

    @Holds("Promise 23: NONE")
    static void letterNone(Due due) {
        OnceCalls x = oneOfEachKind();
        int[] places = {-1, 5, 399, 400, MIN, MAX};
        for (int i : places) {
            due.is("letter(" + i + ", 0)", x.letter(i, 0), NONE);
            due.is("letter(" + i + ", 5)", x.letter(i, 5), NONE);
        }
        int[] whats = {-1, 6, 10, MIN, MAX};
        for (int what : whats) {
            for (int i = 0; i < 5; i++) {
                due.is("letter(" + i + ", " + what + ")", x.letter(i, what), NONE);
            }
        }
        due.is("in an empty row", new OnceCalls(2, 10).letter(0, 0), NONE);
        due.is("the last of a full row", fullRow().letter(399, 0), 1);
        due.is("behind a full row", fullRow().letter(400, 0), NONE);
    }

    // 24 count

    @Holds("Promise 24: what = 0 letters in the row")
    static void lettersInTheRow(Due due) {
        due.is("none", new OnceCalls(2, 10).count(0), 0);
        due.is("five", oneOfEachKind().count(0), 5);
        due.is("all", fullRow().count(0), 400);
        OnceCalls x = Steps.opened(2, 10, 0);
        Steps.ask(x, 0, 0, 1, 1L, 0L);
        due.is("what is held is not in the row", x.count(0), 0);
    }

    @Holds("Promise 24: 1 lost in all ways")
    static void lostInAllWays(Due due) {
        OnceCalls x = Steps.opened(2, 100, 0);
        x.call(0, 0, 1, 1L, 0L);
        Steps.fillRow(x);
        due.is("none yet", x.count(1), 0);
        x.ack(0, 0);
        due.is("in a full row", x.count(1), 1);
        x.drop(0);
        due.is("dropped", x.count(1), 2);
        x.deliver(0);
        x.deliver(0);
        due.is("held ones are not lost", x.count(1), 2);
        x.crash(0);
        due.is("held ones in a crash", x.count(1), 4);
        x.deliver(0);
        due.is("at a server that is down", x.count(1), 5);
        x.deliver(MAX);
        due.is("no letter", x.count(1), 5);
    }

    @Holds("Promise 24: 2 EFFECTS (those that a crash took back, too)")
    static void effects(Due due) {
        OnceCalls x = Steps.opened(2, 100, 0);
        Steps.ask(x, 0, 0, 1, 1L, 0L);
        due.is("one", x.count(2), 1);
        x.crash(0);
        due.is("taken back", x.count(2), 1);
        x.start(0);
        x.retry(0, 1);
        x.deliver(0);
        due.is("anew", x.count(2), 2);
        x.retry(0, 1);
        x.deliver(0);
        due.is("known", x.count(2), 2);
        Steps.ask(x, 0, 0, 2, 99L, 0L);
        due.is("an act that finds another value", x.count(2), 3);
    }

    @Holds("Promise 24: 3 calls that became DONE")
    static void becameDone(Due due) {
        OnceCalls x = Steps.opened(2, 10, 0);
        Steps.ask(x, 0, 0, 1, 1L, 0L);
        x.sync(0);
        due.is("not before the answer comes", x.count(3), 0);
        x.twin(0);
        x.deliver(0);
        due.is("one", x.count(3), 1);
        x.deliver(0);
        due.is("once", x.count(3), 1);
        x.open(0);
        due.is("counted still", x.count(3), 1);
        x.ticks(11);
        Steps.ask(x, 0, 0, 1, 1L, 0L);
        Steps.deliverLast(x);
        due.is("a refused one is not", x.count(3), 1);
    }

    @Holds("Promise 24: 4 the time")
    static void time(Due due) {
        OnceCalls x = new OnceCalls(2, 10);
        due.is("at first", x.count(4), 0);
        x.ticks(1000);
        x.ticks(1);
        x.ticks(1001);
        due.is("then", x.count(4), 1001);
    }

    @Holds("Promise 24: NONE")
    static void countNone(Due due) {
        int[] wrong = {-1, 5, 10, MIN, MAX};
        for (int what : wrong) {
            due.is("count(" + what + ")", oneOfEachKind().count(what), NONE);
        }
    }
}
