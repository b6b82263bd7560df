/** The edges that the second block of text in 'Terms' names of 1 REQUEST, of what is KNOWN, and of ACTS. */
public final class RequestEdgesTest {
    private static final int PUT = 0, ADD = 1, TAKE = 2, MUL = 3;

    public static void main(String[] args) {
        Edges.run(RequestEdgesTest.class);
    }

    // 1 REQUEST

    @Holds("1 REQUEST: the incarnation is not live: ANSWER 3: the lease is over")
    static void leaseIsOver(Due due) {
        OnceCalls x = Steps.opened(2, 10, 0);
        x.call(0, 0, ADD, 1L, 0L);
        x.twin(0);
        x.ticks(10);
        x.deliver(0);
        due.is("effects at the end of the lease", x.count(2), 1);
        x.ticks(1);
        x.deliver(0);
        x.sync(0);
        due.is("code at the end", x.letter(0, 5), 0);
        due.is("code one tick later", x.letter(1, 5), 3);
        due.is("it tells the incarnation", x.letter(1, 3), 1);
        due.is("and the number", x.letter(1, 4), 1);
    }

    @Holds("1 REQUEST: the incarnation is not live: renewed in time, it is")
    static void renewedInTime(Due due) {
        OnceCalls x = Steps.opened(2, 10, 0);
        x.call(0, 0, ADD, 1L, 0L);
        x.ticks(10);
        x.renew(0);
        x.ticks(10);
        x.deliver(0);
        x.sync(0);
        due.is("code", x.letter(0, 5), 0);
    }

    @Holds("1 REQUEST, of several the first: not live, before LEAVING and NOT HERE")
    static void notLiveComesFirst(Due due) {
        OnceCalls x = Steps.opened(2, 10, 0);
        x.call(0, 0, ADD, 1L, 0L);
        x.call(0, 2, ADD, 1L, 0L);
        Steps.moveOver(x, 0, 2, 1);
        x.move(0, 0, 1);
        x.sync(0);
        x.ticks(11);
        x.deliver(0);
        due.is("LEAVING", Steps.last(x, 5), 3);
        x.deliver(0);
        due.is("NOT HERE", Steps.last(x, 5), 3);
    }

    @Holds("1 REQUEST, of several the first: not live, before what is KNOWN, old, or recorded")
    static void notLiveIsNotKnown(Due due) {
        OnceCalls x = Steps.opened(2, 10, 0, 1);
        Steps.finish(x, 0, 0, ADD, 1L, 0L);
        x.call(0, 0, ADD, 1L, 0L);
        x.call(1, 0, ADD, 1L, 0L);
        x.ticks(11);
        x.deliver(0);
        due.is("code", x.letter(1, 5), 3);
        due.is("FIRST 2 is not known", x.bucket(0, 0, 20), 1);
        x.deliver(0);
        due.is("code of client 1", x.letter(1, 5), 3);
        due.is("its incarnation is not known", x.bucket(0, 0, 11), 0);
        OnceCalls y = Steps.opened(2, 10, 0);
        y.call(0, 0, ADD, 1L, 0L);
        y.twin(0);
        y.deliver(0);
        y.sync(0);
        y.ticks(11);
        y.deliver(0);
        due.is("one that has a record", y.letter(1, 5), 3);
    }

    @Holds("1 REQUEST: The key's bucket is LEAVING: 2")
    static void leavingIsLater(Due due) {
        OnceCalls x = Steps.threeEach();
        x.move(0, 0, 1);
        x.sync(0);
        due.is("before a record of it", Steps.codeOfRetry(x, 0, 1), 2);
        x.deliver(0);
        x.call(0, 0, ADD, 1L, 0L);
        due.is("FIRST that is told", Steps.last(x, 5), 2);
        Steps.deliverLast(x);
        due.is("code", Steps.last(x, 5), 2);
        due.is("it is not KNOWN", x.bucket(0, 0, 20), 1);
        due.is("records stay", x.bucket(0, 0, 3), 6);
        Steps.ask(x, 0, 2, ADD, 1L, 0L);
        due.is("another bucket's request takes effect", x.value(0, 2), 1);
    }

    @Holds("1 REQUEST: NOT HERE: 1, with the hint")
    static void notHereTellsTheHint(Due due) {
        OnceCalls x = Steps.opened(3, 100, 0);
        Steps.moveOver(x, 0, 0, 2);
        Steps.ask(x, 0, 0, ADD, 1L, 0L);
        due.is("code", Steps.last(x, 5), 1);
        due.is("it is not KNOWN", x.bucket(0, 0, 10), 0);
        Steps.deliverLast(x);
        due.is("the hint is the guess", x.client(0, 10), 2);
        Steps.moveOver(x, 2, 0, 1);
        due.is("moved on", Steps.codeOfRetry(x, 0, 1), 1);
        Steps.deliverLast(x);
        due.is("the next hint", x.client(0, 10), 1);
    }

    @Holds("1 REQUEST: NOT HERE: 1, with the hint: the bucket came back to its first server")
    static void notHereAnyMore(Due due) {
        OnceCalls x = Steps.opened(3, 100, 0);
        Steps.moveOver(x, 0, 0, 2);
        Steps.ask(x, 0, 0, ADD, 1L, 0L);
        Steps.deliverLast(x);
        Steps.moveOver(x, 2, 0, 0);
        due.is("2 tells", Steps.codeOfRetry(x, 0, 1), 1);
        Steps.deliverLast(x);
        due.is("where it went", x.client(0, 10), 0);
    }

    @Holds("1 REQUEST: KNOWN: what the request tells as FIRST .. before the 12 records are counted")
    static void knownMakesRoom(Due due) {
        OnceCalls x = Steps.twelveRecords();
        due.is("the answer to call 1", Steps.codeOfRetry(x, 0, 1), 0);
        Steps.deliverLast(x);
        x.call(0, 0, ADD, 1L, 0L);
        due.is("it tells FIRST", Steps.last(x, 5), 2);
        Steps.deliverLast(x);
        due.is("takes effect", x.value(0, 0), 13);
        due.is("records", x.bucket(0, 0, 3), 12);
        due.is("the first is of number", x.record(0, 0, 0, 2), 2);
        due.is("the last is of number", x.record(0, 0, 11, 2), 5);
    }

    @Holds("1 REQUEST: If the number is below the FIRST there then: 4")
    static void belowTheFirst(Due due) {
        OnceCalls x = Steps.threeEach();
        x.retry(0, 2);
        x.retry(0, 3);
        x.deliver(0);
        x.deliver(1);
        x.ack(0, 0);
        due.is("FIRST is", x.client(0, 4), 3);
        Steps.deliverLast(x);
        x.sync(0);
        x.deliver(4);
        due.is("2, one below it", Steps.last(x, 5), 4);
        x.deliver(4);
        due.is("3, just it", Steps.last(x, 5), 0);
        due.is("effects", x.count(2), 6);
        due.is("value", x.value(0, 0), 33);
    }

    @Holds("1 REQUEST: If the number is below ..: just the FIRST, without a record, takes effect")
    static void justTheFirst(Due due) {
        OnceCalls x = Steps.opened(2, 100, 0);
        Steps.finish(x, 0, 0, ADD, 1L, 0L);
        x.ack(0, 0);
        x.deliver(0);
        due.is("FIRST there", x.bucket(0, 0, 20), 2);
        x.call(0, 0, ADD, 1L, 0L);
        x.deliver(0);
        due.is("effects", x.count(2), 2);
    }

    @Holds("1 REQUEST: If the number is below ..: just the FIRST that an ack told, in a request that tells less")
    static void justTheFirstThatWasToldLater(Due due) {
        OnceCalls x = Steps.opened(2, 100, 0);
        x.call(0, 0, ADD, 1L, 0L);
        x.call(0, 0, ADD, 1L, 0L);
        x.deliver(0);
        x.sync(0);
        x.deliver(1);
        x.ack(0, 0);
        x.deliver(1);
        due.is("FIRST there", x.bucket(0, 0, 20), 2);
        due.is("the late request is of number", x.letter(0, 4), 2);
        due.is("and tells FIRST", x.letter(0, 5), 1);
        x.deliver(0);
        due.is("effects", x.count(2), 2);
        due.is("FIRST stays", x.bucket(0, 0, 20), 2);
        Steps.numbersAre(due, x, 0, 0, 0, 2);
    }

    @Holds("1 REQUEST: There is a record of it: 0, with its result")
    static void recordOfIt(Due due) {
        OnceCalls x = Steps.opened(2, 100, 0, 1);
        Steps.ask(x, 0, 0, ADD, 5L, 0L);
        Steps.ask(x, 1, 0, ADD, 6L, 0L);
        x.sync(0);
        x.drop(0);
        due.is("code", Steps.codeOfRetry(x, 0, 1), 0);
        Steps.deliverLast(x);
        due.is("the result of then", x.result(0, 1), 5);
        due.is("value", x.value(0, 0), 11);
        due.is("effects", x.count(2), 2);
        due.is("records", x.bucket(0, 0, 3), 2);
    }

    @Holds("1 REQUEST: There is a record of it: one of another client with the same number is none")
    static void recordOfAnotherClient(Due due) {
        OnceCalls x = Steps.opened(2, 100, 0, 1);
        Steps.finish(x, 0, 0, ADD, 5L, 0L);
        Steps.finish(x, 1, 0, ADD, 6L, 0L);
        due.is("result", x.result(1, 1), 11);
        due.is("effects", x.count(2), 2);
    }

    @Holds("1 REQUEST: There is a record of it: one of another incarnation is none")
    static void recordOfAnotherIncarnation(Due due) {
        OnceCalls x = Steps.opened(2, 100, 0);
        Steps.finish(x, 0, 0, ADD, 5L, 0L);
        x.open(0);
        Steps.finish(x, 0, 0, ADD, 6L, 0L);
        due.is("result", x.result(0, 1), 11);
        due.is("effects", x.count(2), 2);
    }

    @Holds("1 REQUEST: There is a record of it: one in another bucket is none")
    static void recordInAnotherBucket(Due due) {
        OnceCalls x = Steps.opened(2, 100, 0);
        Steps.ask(x, 0, 0, ADD, 5L, 0L);
        Steps.ask(x, 0, 2, ADD, 6L, 0L);
        due.is("value 0", x.value(0, 0), 5);
        due.is("value 2", x.value(0, 2), 6);
        due.is("records of 0", x.bucket(0, 0, 3), 1);
        due.is("records of 2", x.bucket(0, 2, 3), 1);
    }

    @Holds("1 REQUEST, of several the first: a record of it, before the 12 records")
    static void recordAmongTwelve(Due due) {
        OnceCalls x = Steps.twelveRecords();
        due.is("the first", Steps.codeOfRetry(x, 0, 1), 0);
        due.is("the last", Steps.codeOfRetry(x, 2, 4), 0);
        Steps.deliverLast(x);
        due.is("its result", x.result(2, 4), 12);
    }

    @Holds("1 REQUEST: There are 12 records: 2")
    static void twelveRecords(Due due) {
        OnceCalls x = Steps.twelveRecords();
        x.call(3, 0, ADD, 1L, 0L);
        x.deliver(0);
        due.is("held", x.sync(0), 1);
        due.is("code", x.letter(0, 5), 2);
        due.is("value", x.value(0, 0), 12);
        due.is("effects", x.count(2), 12);
        x.deliver(0);
        due.is("again", Steps.codeOfRetry(x, 3, 1), 2);
        Steps.deliverLast(x);
        x.open(0);
        x.ack(0, 0);
        x.deliver(0);
        due.is("with 8 records there is room", x.bucket(0, 0, 3), 8);
        x.retry(3, 1);
        x.deliver(0);
        due.is("value then", x.value(0, 0), 13);
    }

    @Holds("1 REQUEST: There are 12 records: with 11 it takes effect")
    static void elevenRecords(Due due) {
        OnceCalls x = Steps.opened(2, 100, 0, 1, 2);
        for (int i = 0; i < 11; i++) {
            Steps.ask(x, i % 3, 0, ADD, 1L, 0L);
        }
        due.is("records", x.bucket(0, 0, 3), 11);
        Steps.ask(x, 2, 0, ADD, 1L, 0L);
        due.is("records then", x.bucket(0, 0, 3), 12);
        due.is("value", x.value(0, 0), 12);
    }

    @Holds("1 REQUEST: Else the act takes EFFECT, a record with its result comes behind the others, "
        + "and ANSWER 0 tells it")
    static void effectAndRecord(Due due) {
        OnceCalls x = Steps.opened(2, 100, 1, 0);
        Steps.ask(x, 1, 0, ADD, 4L, 0L);
        Steps.ask(x, 0, 8, ADD, 5L, 0L);
        due.is("effects", x.count(2), 2);
        due.is("value", x.value(0, 8), 5);
        Steps.numbersAre(due, x, 0, 0, 1, 1, 0, 1);
        due.is("its incarnation", x.record(0, 0, 1, 1), 2);
        x.sync(0);
        due.is("code", x.letter(1, 5), 0);
        x.deliver(1);
        due.is("result", x.result(0, 1), 5);
    }

    @Holds("1 REQUEST: (The result is 0 for 2, 3, 4.)")
    static void noResultForTheOthers(Due due) {
        OnceCalls x = Steps.opened(2, 10, 0);
        Steps.finish(x, 0, 0, PUT, 9L, 0L);
        Steps.moveOver(x, 1, 1, 0);
        x.move(0, 1, 1);
        x.sync(0);
        x.drop(0);
        Steps.ask(x, 0, 1, ADD, 1L, 0L);
        Steps.deliverLast(x);
        due.is("after a hint", x.result(0, 2), 0);
        due.is("guess", x.client(0, 11), 0);
        due.is("LEAVING", Steps.codeOfRetry(x, 0, 2), 2);
        Steps.deliverLast(x);
        due.is("after a 2", x.result(0, 2), 0);
        x.ticks(11);
        due.is("not live", Steps.codeOfRetry(x, 0, 2), 3);
        Steps.deliverLast(x);
        due.is("after a 3", x.result(0, 2), 0);
    }

    // KNOWN

    @Holds("KNOWN: if that incarnation is above the one there: all records of the client go")
    static void aNewIncarnationIsKnown(Due due) {
        OnceCalls x = Steps.threeEach();
        x.open(0);
        x.ack(0, 0);
        Steps.deliverLast(x);
        Steps.numbersAre(due, x, 0, 0, 1, 1, 1, 2, 1, 3);
        due.is("not clean", x.server(0, 1), 0);
        x.sync(0);
        due.is("results of the others are with their numbers", Steps.codeOfRetry(x, 1, 2), 0);
        Steps.deliverLast(x);
        due.is("result", x.result(1, 2), 22);
    }

    @Holds("KNOWN: .. and these two are there then (a FIRST that is less, too)")
    static void incarnationAndFirstAreThere(Due due) {
        OnceCalls x = Steps.threeEach();
        x.deliver(0);
        x.deliver(1);
        x.ack(0, 0);
        Steps.deliverLast(x);
        due.is("FIRST", x.bucket(0, 0, 20), 3);
        x.open(0);
        x.ack(0, 0);
        Steps.deliverLast(x);
        due.is("incarnation", x.bucket(0, 0, 10), 3);
        due.is("FIRST then", x.bucket(0, 0, 20), 1);
        due.is("incarnation of the other", x.bucket(0, 0, 11), 2);
    }

    @Holds("KNOWN: if it is the same, and the FIRST is above: that is there then, "
        + "and records of the client with numbers below it go")
    static void aFirstThatIsAbove(Due due) {
        OnceCalls x = Steps.threeEach();
        x.deliver(0);
        x.deliver(1);
        x.ack(0, 0);
        Steps.deliverLast(x);
        due.is("FIRST", x.bucket(0, 0, 20), 3);
        Steps.numbersAre(due, x, 0, 0, 1, 1, 1, 2, 0, 3, 1, 3);
        due.is("not clean", x.server(0, 1), 0);
        x.sync(0);
        due.is("results stay with their numbers", Steps.codeOfRetry(x, 1, 3), 0);
        Steps.deliverLast(x);
        due.is("result", x.result(1, 3), 33);
    }

    @Holds("KNOWN: (Otherwise nothing.): the same FIRST")
    static void theSameFirst(Due due) {
        OnceCalls x = Steps.threeEach();
        x.ack(0, 0);
        Steps.deliverLast(x);
        x.sync(0);
        x.ack(0, 0);
        Steps.deliverLast(x);
        due.is("clean", x.server(0, 1), 1);
        due.is("records", x.bucket(0, 0, 3), 6);
    }

    @Holds("KNOWN: (Otherwise nothing.): a FIRST that is less")
    static void aFirstThatIsLess(Due due) {
        OnceCalls x = Steps.threeEach();
        x.ack(0, 0);
        x.deliver(0);
        x.ack(0, 0);
        Steps.deliverLast(x);
        x.sync(0);
        due.is("FIRST", x.bucket(0, 0, 20), 2);
        due.is("the late ack tells", Steps.last(x, 4), 1);
        Steps.deliverLast(x);
        due.is("FIRST stays", x.bucket(0, 0, 20), 2);
        due.is("clean", x.server(0, 1), 1);
    }

    @Holds("KNOWN: (Otherwise nothing.): an incarnation that is less, though its FIRST is above")
    static void anIncarnationThatIsLess(Due due) {
        OnceCalls x = Steps.opened(2, 100, 0);
        Steps.finish(x, 0, 0, ADD, 1L, 0L);
        Steps.finish(x, 0, 0, ADD, 1L, 0L);
        x.ack(0, 0);
        x.open(0);
        Steps.finish(x, 0, 0, ADD, 1L, 0L);
        due.is("the late ack tells", x.letter(0, 4), 3);
        x.deliver(0);
        due.is("incarnation", x.bucket(0, 0, 10), 2);
        due.is("FIRST", x.bucket(0, 0, 20), 1);
        due.is("records", x.bucket(0, 0, 3), 1);
        due.is("clean but for other buckets", x.bucket(0, 2, 10), 1);
    }

    // ACTS

    private static void act(Due due, long before, int act, long a, long b, long after, long result) {
        OnceCalls x = Steps.opened(2, 100, 0);
        Steps.finish(x, 0, 25, PUT, before, 77L);
        Steps.finish(x, 0, 25, act, a, b);
        String name = "act " + act + " with " + a + ", " + b + " on " + before;
        due.is(name + ", value", x.value(1, 25), after);
        due.is(name + ", result", x.result(0, 2), result);
        due.is(name + ", DONE", x.state(0, 2), 1);
        due.is(name + ", effects", x.count(2), 2);
        due.is(name + ", value of the next key", x.value(1, 17), 0);
    }

    @Holds("ACTS: 0 PUT a: the result is what was there")
    static void put(Due due) {
        act(due, 5L, PUT, 6L, 9L, 6L, 5L);
        act(due, Long.MIN_VALUE, PUT, Long.MAX_VALUE, 0L, Long.MAX_VALUE, Long.MIN_VALUE);
        act(due, -1L, PUT, -1L, 0L, -1L, -1L);
        act(due, 1L << 40, PUT, 0L, 1L, 0L, 1L << 40);
    }

    @Holds("ACTS: 1 ADD a (64 bits, running over): the value then")
    static void add(Due due) {
        act(due, 5L, ADD, 6L, 9L, 11L, 11L);
        act(due, Long.MAX_VALUE, ADD, 1L, 0L, Long.MIN_VALUE, Long.MIN_VALUE);
        act(due, Long.MIN_VALUE, ADD, -1L, 0L, Long.MAX_VALUE, Long.MAX_VALUE);
        act(due, Long.MIN_VALUE, ADD, Long.MIN_VALUE, 0L, 0L, 0L);
        act(due, 0xFFFFFFFFL, ADD, 1L, 0L, 0x100000000L, 0x100000000L);
    }

    @Holds("ACTS: 2 TAKE b for a: if the value is a, it becomes b: 1")
    static void takeThatFits(Due due) {
        act(due, 5L, TAKE, 5L, 6L, 6L, 1L);
        act(due, 5L, TAKE, 5L, 5L, 5L, 1L);
        act(due, Long.MIN_VALUE, TAKE, Long.MIN_VALUE, Long.MAX_VALUE, Long.MAX_VALUE, 1L);
        act(due, 0L, TAKE, 0L, -1L, -1L, 1L);
    }

    @Holds("ACTS: 2 TAKE b for a: .. else 0")
    static void takeThatDoesNotFit(Due due) {
        act(due, 5L, TAKE, 6L, 5L, 5L, 0L);
        act(due, 5L, TAKE, 4L, 9L, 5L, 0L);
        act(due, 5L, TAKE, 5L + (1L << 32), 9L, 5L, 0L);
        act(due, Long.MIN_VALUE, TAKE, 0L, 9L, Long.MIN_VALUE, 0L);
    }

    @Holds("ACTS: 3 MUL a likewise as 1")
    static void mul(Due due) {
        act(due, 5L, MUL, 6L, 9L, 30L, 30L);
        act(due, 5L, MUL, 0L, 9L, 0L, 0L);
        act(due, Long.MIN_VALUE, MUL, -1L, 0L, Long.MIN_VALUE, Long.MIN_VALUE);
        act(due, Long.MAX_VALUE, MUL, 2L, 0L, -2L, -2L);
        act(due, 1L << 32, MUL, 1L << 32, 0L, 0L, 0L);
        act(due, -3L, MUL, -3L, 0L, 9L, 9L);
    }
}
