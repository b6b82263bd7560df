/** The edges that the second block of text in 'Terms' names of CLEAN, HELD, SYNC, CRASH and START. */
public final class KeepingEdgesTest {
    private static final int NONE = -1;

    public static void main(String[] args) {
        Edges.run(KeepingEdgesTest.class);
    }

    /** Server 0 of 2 has a value and a record of client 0 that are kept, and one more of each that are not. */
    private static OnceCalls keptAndNotKept() {
        OnceCalls x = Steps.opened(2, 100, 0, 1);
        Steps.finish(x, 0, 0, 0, 5L, 0L);
        Steps.ask(x, 1, 8, 0, 6L, 0L);
        return x;
    }

    @Holds("Servers: A server is CLEAN if memory was not changed since it was kept: a new one")
    static void cleanAtFirst(Due due) {
        OnceCalls x = new OnceCalls(4, 10);
        for (int server = 0; server < 4; server++) {
            due.is("clean", x.server(server, 1), 1);
        }
    }

    @Holds("Servers: A server is CLEAN if ..: an act that leaves the value as it was leaves a record")
    static void notCleanAfterAnActThatChangesNoValue(Due due) {
        OnceCalls x = Steps.opened(2, 100, 0);
        Steps.finish(x, 0, 0, 1, 0L, 0L);
        x.open(1);
        Steps.ask(x, 0, 0, 2, 1L, 9L);
        due.is("value", x.value(0, 0), 0);
        due.is("clean", x.server(0, 1), 0);
        due.is("the other server", x.server(1, 1), 1);
    }

    @Holds("Servers: A server is CLEAN if ..: an act whose request tells nothing new")
    static void notCleanAfterAnEffectAlone(Due due) {
        OnceCalls x = Steps.opened(2, 100, 0);
        Steps.ask(x, 0, 0, 1, 1L, 0L);
        x.sync(0);
        Steps.ask(x, 0, 0, 1, 1L, 0L);
        due.is("FIRST as before", x.bucket(0, 0, 20), 1);
        due.is("clean", x.server(0, 1), 0);
        due.is("the answer is held", x.server(0, 2), 1);
    }

    @Holds("Servers: A server is CLEAN if ..: a FIRST that rises is a change, without a record that goes, too")
    static void notCleanAfterAFirstThatRises(Due due) {
        OnceCalls x = Steps.opened(2, 100, 0);
        x.ack(0, 0);
        x.deliver(0);
        x.sync(0);
        due.is("clean before", x.server(0, 1), 1);
        Steps.finish(x, 0, 1, 1, 1L, 0L);
        x.ack(0, 0);
        x.deliver(0);
        due.is("FIRST", x.bucket(0, 0, 20), 2);
        due.is("clean", x.server(0, 1), 0);
    }

    @Holds("Servers: A server is CLEAN if ..: one record that is collected is a change")
    static void notCleanAfterACollect(Due due) {
        OnceCalls x = Steps.opened(2, 10, 0);
        Steps.finish(x, 0, 0, 1, 1L, 0L);
        x.ticks(11);
        due.is("clean before", x.server(0, 1), 1);
        due.is("gone", x.collect(0), 1);
        due.is("clean", x.server(0, 1), 0);
        x.crash(0);
        due.is("a crash takes it back", x.bucket(0, 0, 3), 1);
    }

    @Holds("Servers: A server is CLEAN if ..: what is KNOWN is memory, too")
    static void notCleanAfterWhatIsKnown(Due due) {
        OnceCalls x = Steps.twelveRecords();
        due.is("clean before", x.server(0, 1), 1);
        Steps.ask(x, 3, 0, 1, 1L, 0L);
        due.is("records", x.bucket(0, 0, 3), 12);
        due.is("incarnation", x.bucket(0, 0, 13), 4);
        due.is("clean", x.server(0, 1), 0);
        due.is("the answer is held", x.server(0, 2), 1);
    }

    @Holds("Servers: A server is CLEAN if ..: a change and back again are changes")
    static void notCleanAfterAChangeAndBack(Due due) {
        OnceCalls x = Steps.opened(2, 10, 0);
        x.ack(0, 0);
        x.deliver(0);
        x.sync(0);
        Steps.ask(x, 0, 0, 2, 1L, 9L);
        due.is("clean after the act", x.server(0, 1), 0);
        x.ticks(11);
        due.is("the record goes again", x.collect(0), 1);
        due.is("clean", x.server(0, 1), 0);
    }

    @Holds("Servers: A server is CLEAN if ..: a request that it knows changes nothing")
    static void cleanAfterARequestThatItKnows(Due due) {
        OnceCalls x = Steps.opened(2, 100, 0);
        Steps.ask(x, 0, 0, 1, 5L, 0L);
        x.sync(0);
        x.retry(0, 1);
        x.deliver(1);
        due.is("clean", x.server(0, 1), 1);
        due.is("held", x.server(0, 2), 0);
        due.is("letters", x.count(0), 2);
    }

    @Holds("Servers: A server is CLEAN if ..: a request that is turned away changes nothing")
    static void cleanAfterARequestTurnedAway(Due due) {
        OnceCalls x = Steps.opened(2, 10, 0);
        x.move(0, 0, 1);
        x.sync(0);
        x.drop(0);
        Steps.ask(x, 0, 0, 1, 5L, 0L);
        due.is("LEAVING", Steps.last(x, 5), 2);
        due.is("clean then", x.server(0, 1), 1);
        x.ticks(11);
        due.is("not live", Steps.codeOfRetry(x, 0, 1), 3);
        due.is("clean after that", x.server(0, 1), 1);
        OnceCalls y = Steps.opened(2, 10, 0);
        Steps.moveOver(y, 0, 0, 1);
        Steps.ask(y, 0, 0, 1, 5L, 0L);
        due.is("NOT HERE", Steps.last(y, 5), 1);
        due.is("clean then, too", y.server(0, 1), 1);
    }

    @Holds("Servers: A letter that it sends goes at once if it is clean")
    static void sentAtOnce(Due due) {
        OnceCalls x = Steps.opened(2, 10, 0);
        x.call(0, 0, 1, 1L, 0L);
        x.ticks(11);
        x.deliver(0);
        due.is("the answer is in the row", x.letter(0, 0), 2);
        due.is("held", x.server(0, 2), 0);
    }

    @Holds("Servers: A letter that it sends .. else it is HELD: the answer that tells of the change")
    static void answerOfAChangeIsHeld(Due due) {
        OnceCalls x = Steps.opened(2, 10, 0);
        Steps.ask(x, 0, 0, 1, 1L, 0L);
        due.is("letters", x.count(0), 0);
        due.is("held", x.server(0, 2), 1);
    }

    @Holds("Servers: A letter that it sends .. else it is HELD: answers that change nothing themselves")
    static void answersAreHeldBehindAChange(Due due) {
        OnceCalls x = Steps.opened(2, 10, 0, 1);
        x.move(0, 2, 1);
        x.sync(0);
        x.drop(0);
        Steps.ask(x, 0, 0, 1, 1L, 0L);
        Steps.ask(x, 0, 2, 1, 1L, 0L);
        due.is("a 2 is held", x.server(0, 2), 2);
        x.retry(0, 1);
        x.deliver(0);
        due.is("a 0 that was known is held", x.server(0, 2), 3);
        x.ticks(11);
        x.retry(0, 1);
        x.deliver(0);
        due.is("a 3 is held", x.server(0, 2), 4);
        due.is("letters", x.count(0), 0);
        x.sync(0);
        int[] codes = {0, 2, 0, 3};
        for (int i = 0; i < codes.length; i++) {
            due.is("code of letter " + i, x.letter(i, 5), codes[i]);
        }
    }

    @Holds("Servers: A letter that it sends .. else it is HELD: 3 MOVE")
    static void moveIsHeld(Due due) {
        OnceCalls x = Steps.opened(2, 10, 0);
        x.move(0, 0, 1);
        due.is("letters", x.count(0), 0);
        due.is("held", x.server(0, 2), 1);
        x.move(0, 0, 1);
        due.is("anew, held, too", x.server(0, 2), 2);
        due.is("letters still", x.count(0), 0);
    }

    @Holds("Servers: A letter that it sends .. else it is HELD: 4 TAKEN")
    static void takenIsHeld(Due due) {
        OnceCalls x = Steps.opened(2, 10, 0);
        x.move(0, 0, 1);
        x.sync(0);
        x.twin(0);
        x.deliver(0);
        due.is("held", x.server(1, 2), 1);
        x.deliver(0);
        due.is("that of a doubled move, too", x.server(1, 2), 2);
        due.is("letters", x.count(0), 0);
    }

    @Holds("Servers: SYNC: memory is kept")
    static void syncKeepsMemory(Due due) {
        OnceCalls x = keptAndNotKept();
        x.sync(0);
        x.crash(0);
        due.is("value 0", x.value(0, 0), 5);
        due.is("value 8", x.value(0, 8), 6);
        due.is("records", x.bucket(0, 0, 3), 2);
        due.is("incarnation", x.bucket(0, 0, 11), 2);
        due.is("FIRST", x.bucket(0, 0, 21), 1);
    }

    @Holds("Servers: SYNC: .. it is clean")
    static void syncMakesClean(Due due) {
        OnceCalls x = keptAndNotKept();
        due.is("clean before", x.server(0, 1), 0);
        x.sync(0);
        due.is("clean", x.server(0, 1), 1);
        due.is("sync of one that is clean", x.sync(0), 0);
        due.is("clean still", x.server(0, 1), 1);
    }

    @Holds("Servers: SYNC: .. what is held goes, in order")
    static void syncSendsInOrder(Due due) {
        OnceCalls x = Steps.opened(2, 10, 0, 1);
        Steps.ask(x, 1, 0, 1, 1L, 0L);
        Steps.ask(x, 0, 2, 1, 1L, 0L);
        x.move(0, 4, 1);
        Steps.ask(x, 1, 0, 1, 1L, 0L);
        x.ack(0, 1);
        x.sync(0);
        int[][] letters = {{5, 1}, {2, 1}, {2, 0}, {3, 1}, {2, 1}};
        for (int i = 0; i < letters.length; i++) {
            due.is("kind of letter " + i, x.letter(i, 0), letters[i][0]);
            due.is("letter " + i + " is for", x.letter(i, 1), letters[i][1]);
        }
        due.is("number of the last", x.letter(4, 4), 2);
        due.is("letters", x.count(0), 5);
        due.is("held", x.server(0, 2), 0);
    }

    @Holds("Servers: SYNC: one server alone")
    static void syncOfOneServer(Due due) {
        OnceCalls x = Steps.opened(2, 10, 0);
        Steps.ask(x, 0, 0, 1, 1L, 0L);
        Steps.ask(x, 0, 1, 1, 1L, 0L);
        x.sync(1);
        due.is("clean 0", x.server(0, 1), 0);
        due.is("held 0", x.server(0, 2), 1);
        due.is("clean 1", x.server(1, 1), 1);
        due.is("letters", x.count(0), 1);
    }

    @Holds("Servers: CRASH: it is down")
    static void crashMakesDown(Due due) {
        OnceCalls x = keptAndNotKept();
        x.crash(0);
        due.is("up", x.server(0, 0), 0);
        due.is("the other is up", x.server(1, 0), 1);
    }

    @Holds("Servers: CRASH: .. memory .. lost")
    static void crashLosesMemory(Due due) {
        OnceCalls x = keptAndNotKept();
        x.move(0, 2, 1);
        x.crash(0);
        x.start(0);
        due.is("kept value", x.value(0, 0), 5);
        due.is("lost value", x.value(0, 8), 0);
        due.is("records", x.bucket(0, 0, 3), 1);
        due.is("the lost one", x.record(0, 0, 1, 0), NONE);
        due.is("incarnation", x.bucket(0, 0, 11), 0);
        due.is("FIRST", x.bucket(0, 0, 21), 0);
        due.is("status", x.bucket(0, 2, 0), 1);
        due.is("hint", x.bucket(0, 2, 2), 0);
        Steps.finish(x, 1, 8, 0, 7L, 0L);
        due.is("a call after that", x.value(0, 8), 7);
        x.retry(1, 1);
        x.deliver(0);
        due.is("the lost call takes effect anew", x.count(2), 4);
        due.is("value then", x.value(0, 8), 6);
    }

    @Holds("Servers: CRASH: .. memory .. lost: a bucket that came")
    static void crashLosesABucketThatCame(Due due) {
        OnceCalls x = Steps.opened(3, 100, 0);
        Steps.finish(x, 0, 0, 0, 5L, 0L);
        x.move(0, 0, 2);
        x.sync(0);
        x.deliver(0);
        due.is("version in memory", x.bucket(2, 0, 1), 2);
        due.is("the TAKEN is lost", x.crash(2), 1);
        x.start(2);
        int[] before = {0, 0, 0, 0};
        for (int what = 0; what <= 3; what++) {
            due.is("bucket(2, 0, " + what + ")", x.bucket(2, 0, what), before[what]);
        }
        due.is("value", x.value(2, 0), 0);
        due.is("it can go anew", x.move(0, 0, 2), 2);
        Steps.deliverLast(x);
        due.is("and come", x.value(2, 0), 5);
    }

    @Holds("Servers: CRASH: .. memory .. lost: that a bucket is NOT HERE any more")
    static void crashBringsBackABucketThatLeft(Due due) {
        OnceCalls x = Steps.opened(3, 100, 0);
        Steps.finish(x, 0, 0, 0, 5L, 0L);
        x.move(0, 0, 2);
        x.sync(0);
        x.deliver(0);
        x.sync(2);
        x.twin(0);
        x.deliver(0);
        due.is("status in memory", x.bucket(0, 0, 0), 0);
        x.crash(0);
        x.start(0);
        int[] before = {2, 1, 2, 1};
        for (int what = 0; what <= 3; what++) {
            due.is("bucket(0, 0, " + what + ")", x.bucket(0, 0, what), before[what]);
        }
        due.is("value", x.value(0, 0), 5);
        x.deliver(0);
        due.is("the other TAKEN does it again", x.bucket(0, 0, 0), 0);
        due.is("version", x.bucket(0, 0, 1), 2);
    }

    @Holds("Servers: CRASH: .. what is held are lost")
    static void crashLosesWhatIsHeld(Due due) {
        OnceCalls x = keptAndNotKept();
        due.is("held before", x.server(0, 2), 1);
        x.crash(0);
        due.is("held", x.server(0, 2), 0);
        due.is("lost", x.count(1), 1);
        x.start(0);
        due.is("a sync after that has none", x.sync(0), 0);
        due.is("letters", x.count(0), 0);
    }

    @Holds("Servers: CRASH: letters that went stay in the row")
    static void crashLeavesTheRow(Due due) {
        OnceCalls x = Steps.opened(2, 10, 0);
        Steps.ask(x, 0, 0, 1, 4L, 0L);
        x.sync(0);
        x.crash(0);
        due.is("letters", x.count(0), 1);
        due.is("lost", x.count(1), 0);
        due.is("the answer comes", x.deliver(0), 2);
        due.is("result", x.result(0, 1), 4);
    }

    @Holds("Servers: START: it is up, memory is what is kept, it is clean")
    static void startWithWhatIsKept(Due due) {
        OnceCalls x = keptAndNotKept();
        x.crash(0);
        x.start(0);
        due.is("up", x.server(0, 0), 1);
        due.is("clean", x.server(0, 1), 1);
        due.is("value", x.value(0, 0), 5);
        due.is("records", x.server(0, 3), 1);
        x.retry(1, 1);
        x.deliver(0);
        due.is("memory goes its own way then", x.value(0, 8), 6);
        x.crash(0);
        due.is("and what is kept stays so", x.value(0, 8), 0);
        due.is("all of it", x.value(0, 0), 5);
    }

    @Holds("Servers: What comes to a server that is down is lost")
    static void lostAtOneThatIsDown(Due due) {
        OnceCalls x = Steps.opened(2, 10, 0);
        x.call(0, 0, 1, 4L, 0L);
        x.ack(0, 0);
        x.crash(0);
        x.deliver(0);
        x.deliver(0);
        due.is("lost", x.count(1), 2);
        due.is("letters", x.count(0), 0);
        x.start(0);
        due.is("value", x.value(0, 0), 0);
        due.is("incarnation", x.bucket(0, 0, 10), 0);
        due.is("effects", x.count(2), 0);
        due.is("clean", x.server(0, 1), 1);
    }

    @Holds("What it is: say nothing that a crash could take back")
    static void nothingThatACrashCouldTakeBack(Due due) {
        OnceCalls x = Steps.opened(2, 100, 0);
        Steps.ask(x, 0, 0, 1, 4L, 0L);
        x.crash(0);
        x.start(0);
        due.is("nothing was said", x.count(0), 0);
        x.retry(0, 1);
        x.deliver(0);
        x.sync(0);
        x.crash(0);
        x.start(0);
        due.is("said", x.letter(0, 5), 0);
        due.is("there still", x.value(0, 0), 4);
        due.is("effects", x.count(2), 2);
        due.is("a retry after that", Steps.codeOfRetry(x, 0, 1), 0);
        due.is("effects still", x.count(2), 2);
    }
}
