/** The edges that the second block of text in 'Terms' names of 3 MOVE, 4 TAKEN, 5 ACK, TO MOVE, and COLLECT. */
public final class MoveEdgesTest {
    private static final int NONE = -1;
    private static final int PUT = 0, ADD = 1;

    public static void main(String[] args) {
        Edges.run(MoveEdgesTest.class);
    }

    // 3 MOVE

    @Holds("3 MOVE: if the version is above its own of the bucket: that is OWNED now, .. hint itself")
    static void moveThatIsAbove(Due due) {
        OnceCalls x = new OnceCalls(3, 100);
        x.move(0, 0, 2);
        x.sync(0);
        x.deliver(0);
        Steps.bucketIs(due, "came", x, 2, 0, 1, 2, 2, 0);
        due.is("not clean", x.server(2, 1), 0);
    }

    @Holds("3 MOVE: .. with all this: values, records, incarnations and FIRSTS")
    static void allComesAlong(Due due) {
        OnceCalls x = Steps.threeEach();
        x.deliver(0);
        x.ack(0, 0);
        Steps.deliverLast(x);
        Steps.ask(x, 1, 24, PUT, -7L, 0L);
        x.sync(0);
        Steps.moveOver(x, 0, 0, 1);
        due.is("value 0", x.value(1, 0), 33);
        due.is("value 8", x.value(1, 8), 0);
        due.is("value 24", x.value(1, 24), -7);
        Steps.numbersAre(due, x, 1, 0, 1, 1, 0, 2, 1, 2, 0, 3, 1, 3, 1, 4);
        due.is("incarnation of a record", x.record(1, 0, 5, 1), 2);
        due.is("incarnations", x.bucket(1, 0, 10) * 10 + x.bucket(1, 0, 11), 12);
        due.is("FIRSTS", x.bucket(1, 0, 20) * 10 + x.bucket(1, 0, 21), 21);
        Steps.codeOfRetry(x, 1, 3);
        Steps.deliverLast(x);
        due.is("a result that came along", Steps.codeOfRetry(x, 1, 3), 0);
        Steps.deliverLast(x);
        due.is("is", x.result(1, 3), 33);
    }

    @Holds("3 MOVE: .. all that is there: a bucket without a record is moved, too, and 12 records are")
    static void emptyAndFullBuckets(Due due) {
        OnceCalls x = Steps.twelveRecords();
        x.move(0, 0, 1);
        x.move(0, 2, 1);
        x.sync(0);
        due.is("records in the letter", x.letter(0, 5), 12);
        due.is("records in the other", x.letter(1, 5), 0);
        x.deliver(0);
        x.deliver(0);
        due.is("records", x.bucket(1, 0, 3), 12);
        due.is("the last", x.record(1, 0, 11, 2), 4);
        due.is("no records", x.bucket(1, 2, 3), 0);
        Steps.bucketIs(due, "empty", x, 1, 2, 1, 2, 1, 0);
    }

    @Holds("3 MOVE: if the version is above its own: the same version changes nothing")
    static void moveOfTheSameVersion(Due due) {
        OnceCalls x = Steps.threeEach();
        x.move(0, 0, 1);
        x.sync(0);
        x.twin(6);
        x.deliver(6);
        x.sync(1);
        x.deliver(7);
        x.sync(0);
        due.is("a hint", Steps.codeOfRetry(x, 0, 1), 1);
        Steps.deliverLast(x);
        Steps.ask(x, 0, 0, PUT, 99L, 0L);
        x.sync(1);
        due.is("the doubled move", x.deliver(6), 3);
        due.is("value stays", x.value(1, 0), 99);
        due.is("records stay", x.bucket(1, 0, 3), 7);
        due.is("clean", x.server(1, 1), 1);
        due.is("TAKEN goes at once", Steps.last(x, 0), 4);
    }

    @Holds("3 MOVE: if the version is above its own: a version below changes nothing")
    static void moveOfAVersionBelow(Due due) {
        OnceCalls x = new OnceCalls(2, 100);
        x.move(0, 0, 1);
        x.sync(0);
        x.twin(0);
        x.deliver(0);
        x.sync(1);
        x.deliver(1);
        x.sync(0);
        Steps.moveOver(x, 1, 0, 0);
        Steps.bucketIs(due, "moved back", x, 1, 0, 0, 3, 0, 0);
        due.is("the late move tells", x.letter(0, 3), 2);
        x.deliver(0);
        Steps.bucketIs(due, "after the late move", x, 1, 0, 0, 3, 0, 0);
        due.is("clean", x.server(1, 1), 1);
        Steps.bucketIs(due, "it is where it was", x, 0, 0, 1, 3, 0, 0);
    }

    @Holds("3 MOVE: if the version is above its own: a bucket that is LEAVING still is OWNED, too")
    static void moveToOneThatIsLeaving(Due due) {
        OnceCalls x = Steps.threeEach();
        x.move(0, 0, 1);
        x.sync(0);
        Steps.deliverLast(x);
        x.move(1, 0, 0);
        x.sync(1);
        due.is("MOVE is behind TAKEN", Steps.last(x, 0), 3);
        Steps.deliverLast(x);
        Steps.bucketIs(due, "back", x, 0, 0, 1, 3, 0, 6);
        due.is("the late TAKEN", Steps.last(x, 0), 4);
        Steps.deliverLast(x);
        Steps.bucketIs(due, "there still", x, 0, 0, 1, 3, 0, 6);
        due.is("value", x.value(0, 0), 33);
    }

    @Holds("3 MOVE: In any case 4 TAKEN (bucket, the version that came) goes back")
    static void takenGoesBack(Due due) {
        OnceCalls x = new OnceCalls(4, 100);
        x.move(3, 7, 1);
        x.sync(3);
        x.twin(0);
        x.deliver(0);
        x.sync(1);
        int[] taken = {4, 3, 1, 2, 7, 0};
        for (int what = 0; what <= 5; what++) {
            due.is("letter(1, " + what + ")", x.letter(1, what), taken[what]);
        }
        x.deliver(1);
        x.sync(3);
        Steps.moveOver(x, 1, 7, 2);
        due.is("a late one comes", x.deliver(0), 3);
        for (int what = 0; what <= 5; what++) {
            due.is("letter(0, " + what + ") then", x.letter(0, what), taken[what]);
        }
    }

    // 4 TAKEN

    @Holds("4 TAKEN: if the bucket is LEAVING, with just one version less: it is NOT HERE, "
        + "its version is the one that came")
    static void takenOfALeavingBucket(Due due) {
        OnceCalls x = new OnceCalls(3, 100);
        x.move(0, 0, 2);
        x.sync(0);
        x.deliver(0);
        x.sync(2);
        Steps.bucketIs(due, "before", x, 0, 0, 2, 1, 2, 0);
        x.deliver(0);
        Steps.bucketIs(due, "after, with the hint as it was", x, 0, 0, 0, 2, 2, 0);
        due.is("not clean", x.server(0, 1), 0);
        due.is("nothing goes back", x.server(0, 2), 0);
        due.is("no letters", x.count(0), 0);
    }

    @Holds("4 TAKEN: .. no values (0), records, incarnations, FIRSTS are there any more")
    static void nothingIsThereAnyMore(Due due) {
        OnceCalls x = Steps.threeEach();
        Steps.ask(x, 0, 24, PUT, 5L, 0L);
        x.sync(0);
        Steps.moveOver(x, 0, 0, 1);
        for (int key = 0; key < 32; key += 8) {
            due.is("value " + key, x.value(0, key), 0);
        }
        due.is("records", x.bucket(0, 0, 3), 0);
        due.is("record 0", x.record(0, 0, 0, 0), NONE);
        for (int client = 0; client < 6; client++) {
            due.is("incarnation of " + client, x.bucket(0, 0, 10 + client), 0);
            due.is("FIRST of " + client, x.bucket(0, 0, 20 + client), 0);
        }
        due.is("records in all", x.server(0, 3), 0);
        due.is("it is kept so", x.crash(0), 0);
        due.is("value then", x.value(0, 0), 0);
    }

    @Holds("4 TAKEN: if the bucket is LEAVING: one that is OWNED stays")
    static void takenOfAnOwnedBucket(Due due) {
        OnceCalls x = new OnceCalls(2, 100);
        x.move(0, 0, 1);
        x.sync(0);
        x.deliver(0);
        x.sync(1);
        x.twin(0);
        x.deliver(0);
        x.sync(0);
        Steps.moveOver(x, 1, 0, 0);
        x.deliver(0);
        Steps.bucketIs(due, "after the late TAKEN", x, 0, 0, 1, 3, 0, 0);
        due.is("clean", x.server(0, 1), 1);
    }

    @Holds("4 TAKEN: if the bucket is LEAVING: one that is NOT HERE stays")
    static void takenOfABucketThatIsNotHere(Due due) {
        OnceCalls x = new OnceCalls(2, 100);
        x.move(0, 0, 1);
        x.sync(0);
        x.deliver(0);
        x.sync(1);
        x.twin(0);
        x.deliver(0);
        x.sync(0);
        x.deliver(0);
        Steps.bucketIs(due, "after the second TAKEN", x, 0, 0, 0, 2, 1, 0);
        due.is("clean", x.server(0, 1), 1);
    }

    @Holds("4 TAKEN: with just one version less: a TAKEN of an earlier move changes nothing")
    static void takenOfAnEarlierMove(Due due) {
        OnceCalls x = Steps.opened(2, 100, 0);
        x.move(0, 0, 1);
        x.sync(0);
        x.deliver(0);
        x.sync(1);
        x.twin(0);
        x.deliver(0);
        x.sync(0);
        Steps.moveOver(x, 1, 0, 0);
        Steps.finish(x, 0, 0, PUT, 8L, 0L);
        x.move(0, 0, 1);
        x.sync(0);
        due.is("the late TAKEN tells", x.letter(0, 3), 2);
        x.deliver(0);
        Steps.bucketIs(due, "leaving with 3", x, 0, 0, 2, 3, 1, 1);
        due.is("value", x.value(0, 0), 8);
        due.is("clean", x.server(0, 1), 1);
    }

    // 5 ACK

    @Holds("5 ACK: KNOWN at each bucket that is OWNED")
    static void ackAtEachBucket(Due due) {
        OnceCalls x = Steps.opened(2, 100, 1, 0);
        Steps.moveOver(x, 1, 7, 0);
        Steps.moveOver(x, 0, 6, 1);
        x.move(0, 4, 1);
        x.sync(0);
        x.ack(0, 0);
        Steps.deliverLast(x);
        boolean[] owned = {true, false, true, false, false, false, false, true};
        for (int bucket = 0; bucket < 8; bucket++) {
            due.is("incarnation at " + bucket, x.bucket(0, bucket, 10), owned[bucket] ? 2 : 0);
            due.is("FIRST at " + bucket, x.bucket(0, bucket, 20), owned[bucket] ? 1 : 0);
            due.is("at the other server", x.bucket(1, bucket, 10), 0);
        }
        due.is("of another client", x.bucket(0, 0, 11), 0);
    }

    @Holds("5 ACK: .. nothing goes back")
    static void nothingGoesBack(Due due) {
        OnceCalls x = Steps.opened(2, 100, 0);
        x.ack(0, 0);
        x.deliver(0);
        due.is("letters", x.count(0), 0);
        due.is("held", x.server(0, 2), 0);
        due.is("lost", x.count(1), 0);
    }

    @Holds("5 ACK: it is not said that the incarnation must be live")
    static void ackWhenTheLeaseIsOver(Due due) {
        OnceCalls x = Steps.opened(2, 10, 0);
        Steps.finish(x, 0, 0, ADD, 1L, 0L);
        x.ack(0, 0);
        x.ticks(11);
        x.deliver(0);
        due.is("FIRST", x.bucket(0, 0, 20), 2);
        due.is("records", x.bucket(0, 0, 3), 0);
        OnceCalls y = Steps.opened(2, 10, 0);
        y.ack(0, 0);
        y.open(0);
        y.deliver(0);
        due.is("of an old incarnation", y.bucket(0, 0, 10), 1);
    }

    // TO MOVE

    @Holds("TO MOVE a bucket that is OWNED to another server: it is LEAVING, its hint is that server")
    static void movingMakesLeaving(Due due) {
        OnceCalls x = Steps.threeEach();
        x.move(0, 0, 1);
        Steps.bucketIs(due, "the version stays", x, 0, 0, 2, 1, 1, 6);
        due.is("value stays", x.value(0, 0), 33);
        due.is("not clean", x.server(0, 1), 0);
    }

    @Holds("TO MOVE: 3 MOVE with a version one more, and all that is there, goes")
    static void moveThatGoes(Due due) {
        OnceCalls x = Steps.threeEach();
        due.is("version", x.move(0, 0, 1), 2);
        x.sync(0);
        int[] move = {3, 1, 0, 2, 0, 6};
        for (int what = 0; what <= 5; what++) {
            due.is("letter, " + what, Steps.last(x, what), move[what]);
        }
        Steps.deliverLast(x);
        due.is("the next move", x.move(1, 0, 0), 3);
    }

    @Holds("TO MOVE: One that is LEAVING to that server: MOVE goes anew")
    static void moveGoesAnew(Due due) {
        OnceCalls x = Steps.threeEach();
        x.move(0, 0, 1);
        x.sync(0);
        due.is("version", x.move(0, 0, 1), 2);
        due.is("it goes at once", x.count(0), 8);
        due.is("clean", x.server(0, 1), 1);
        for (int what = 0; what <= 5; what++) {
            due.is("letter, " + what, x.letter(7, what), x.letter(6, what));
        }
        Steps.bucketIs(due, "as it was", x, 0, 0, 2, 1, 1, 6);
        x.drop(6);
        x.deliver(6);
        due.is("value", x.value(1, 0), 33);
        due.is("records", x.bucket(1, 0, 3), 6);
    }

    // COLLECT

    /** Server 0 of 2 keeps a record of client 0 in buckets 0, 2, 4, and one of client 1 in 0; 0's lease just ends. */
    private static OnceCalls leaseOfOneEnds() {
        OnceCalls x = Steps.opened(2, 10, 0, 1);
        Steps.ask(x, 0, 0, ADD, 1L, 0L);
        Steps.ask(x, 1, 0, ADD, 2L, 0L);
        Steps.ask(x, 0, 2, ADD, 3L, 0L);
        Steps.ask(x, 0, 4, ADD, 4L, 0L);
        x.ticks(10);
        x.renew(1);
        x.sync(0);
        return x;
    }

    @Holds("COLLECT: in all buckets that are OWNED records of incarnations that are not live go")
    static void collectWhatIsNotLive(Due due) {
        OnceCalls x = leaseOfOneEnds();
        due.is("at the end of the lease", x.collect(0), 0);
        due.is("nothing changed", x.server(0, 1), 1);
        x.ticks(1);
        due.is("one tick later", x.collect(0), 3);
        Steps.numbersAre(due, x, 0, 0, 1, 1);
        due.is("records of 2", x.bucket(0, 2, 3), 0);
        due.is("records of 4", x.bucket(0, 4, 3), 0);
        due.is("not clean", x.server(0, 1), 0);
        due.is("values stay", x.value(0, 0) * 100 + x.value(0, 2) * 10 + x.value(0, 4), 334);
        due.is("incarnation stays", x.bucket(0, 0, 10), 1);
        due.is("FIRST stays", x.bucket(0, 0, 20), 1);
    }

    @Holds("COLLECT: .. buckets that are OWNED: one that is LEAVING keeps its records")
    static void collectNotWhatIsLeaving(Due due) {
        OnceCalls x = leaseOfOneEnds();
        x.move(0, 2, 1);
        x.sync(0);
        x.ticks(1);
        due.is("gone", x.collect(0), 2);
        due.is("records of 2", x.bucket(0, 2, 3), 1);
    }

    @Holds("COLLECT: .. incarnations that are not live: the client was opened anew")
    static void collectOldIncarnations(Due due) {
        OnceCalls x = leaseOfOneEnds();
        x.open(1);
        due.is("gone", x.collect(0), 1);
        Steps.numbersAre(due, x, 0, 0, 0, 1);
        x.open(0);
        due.is("gone then", x.collect(0), 3);
        due.is("again", x.collect(0), 0);
    }

    @Holds("COLLECT: what stays is in its order, with its results")
    static void collectKeepsOrder(Due due) {
        OnceCalls x = Steps.opened(2, 10, 0, 1, 2);
        for (int n = 0; n < 9; n++) {
            Steps.ask(x, n % 3, 0, ADD, 1L, 0L);
        }
        x.ticks(10);
        x.renew(0);
        x.renew(2);
        x.ticks(1);
        due.is("gone", x.collect(0), 3);
        Steps.numbersAre(due, x, 0, 0, 0, 1, 2, 1, 0, 2, 2, 2, 0, 3, 2, 3);
        x.crash(0);
        x.start(0);
        due.is("a crash takes it back", x.bucket(0, 0, 3), 0);
        OnceCalls y = Steps.threeEach();
        y.open(0);
        y.collect(0);
        y.sync(0);
        due.is("code", Steps.codeOfRetry(y, 1, 2), 0);
        Steps.deliverLast(y);
        due.is("result", y.result(1, 2), 22);
    }
}
