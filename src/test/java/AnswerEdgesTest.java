/** The edges that the first block of text in 'Terms' names: requests, and what clients do with answers. */
public final class AnswerEdgesTest {
    public static void main(String[] args) {
        Edges.run(AnswerEdgesTest.class);
    }

    /** Calls 1 and 2 of client 0 at server 0; 1 is done, 2 waits, and its request is the only letter. */
    private static OnceCalls oneDoneOneWaits() {
        OnceCalls x = Steps.opened(2, 100, 0);
        x.call(0, 0, 1, 1L, 0L);
        x.call(0, 0, 1, 1L, 0L);
        x.deliver(0);
        x.sync(0);
        x.deliver(1);
        return x;
    }

    /** Client 0 has called under key 0; the bucket is at server 1 then, and an answer 1 that tells so is letter 0. */
    private static OnceCalls answeredElsewhere() {
        OnceCalls x = Steps.opened(3, 100, 0);
        Steps.moveOver(x, 0, 0, 1);
        x.call(0, 0, 1, 5L, 0L);
        x.deliver(0);
        return x;
    }

    /** The lease is over, calls 1 and 2 wait, and two answers 3 to call 1 are letters 0 and 1. */
    private static OnceCalls answeredNotLive() {
        OnceCalls x = Steps.opened(2, 10, 0);
        x.call(0, 0, 1, 1L, 0L);
        x.call(0, 1, 1, 1L, 0L);
        x.drop(1);
        x.twin(0);
        x.ticks(11);
        x.deliver(0);
        x.deliver(0);
        return x;
    }

    @Holds("Requests: A call sends 1 REQUEST (client, incarnation, number, ..)")
    static void whatARequestTells(Due due) {
        OnceCalls x = Steps.opened(4, 10, 3, 5);
        x.call(5, 31, 3, 1L, 0L);
        x.call(5, 2, 0, 1L, 0L);
        int[][] letters = {{1, 3, 5, 2, 1, 1}, {1, 2, 5, 2, 2, 1}};
        for (int i = 0; i < letters.length; i++) {
            for (int what = 0; what <= 5; what++) {
                due.is("letter(" + i + ", " + what + ")", x.letter(i, what), letters[i][what]);
            }
        }
    }

    @Holds("Requests: its FIRST as it is then")
    static void firstAsItIsThen(Due due) {
        OnceCalls x = oneDoneOneWaits();
        due.is("FIRST is", x.client(0, 4), 2);
        due.is("the request that was sent before tells", x.letter(0, 5), 1);
        x.call(0, 0, 1, 1L, 0L);
        due.is("one that is sent now tells", x.letter(1, 5), 2);
        OnceCalls alone = Steps.opened(2, 100, 0);
        Steps.finish(alone, 0, 0, 1, 1L, 0L);
        alone.call(0, 0, 1, 1L, 0L);
        due.is("the call itself waits then", alone.letter(0, 5), 2);
    }

    @Holds("Requests: to the server guessed")
    static void toTheServerGuessed(Due due) {
        for (int bucket = 0; bucket < 8; bucket++) {
            OnceCalls x = Steps.opened(3, 10, 0);
            x.call(0, 8 + bucket, 0, 1L, 0L);
            due.is("bucket " + bucket, x.letter(0, 1), bucket % 3);
        }
        OnceCalls x = answeredElsewhere();
        x.deliver(0);
        x.call(0, 24, 0, 1L, 0L);
        due.is("the guess as it is now", x.letter(0, 1), 1);
    }

    @Holds("Requests: a retry the same anew: key, act, a, b")
    static void retryOfTheSameCall(Due due) {
        OnceCalls x = Steps.opened(2, 100, 0);
        Steps.finish(x, 0, 9, 0, Long.MAX_VALUE, 0L);
        x.call(0, 9, 2, Long.MAX_VALUE, Long.MIN_VALUE);
        x.call(0, 1, 0, 3L, 4L);
        due.is("retry", x.retry(0, 2), 1);
        for (int what = 0; what <= 5; what++) {
            due.is("letter, " + what, x.letter(2, what), x.letter(0, what));
        }
        x.deliver(2);
        due.is("value", x.value(1, 9), Long.MIN_VALUE);
        due.is("value of the other call's key", x.value(1, 1), 0);
    }

    @Holds("Requests: a retry the same anew: its FIRST as it is then")
    static void retryTellsTheFirstOfNow(Due due) {
        OnceCalls x = oneDoneOneWaits();
        x.retry(0, 2);
        due.is("the call told", x.letter(0, 5), 1);
        due.is("the retry tells", x.letter(1, 5), 2);
    }

    @Holds("Requests: a retry the same anew: to the server guessed")
    static void retryGoesToTheGuessOfNow(Due due) {
        OnceCalls x = answeredElsewhere();
        x.deliver(0);
        x.retry(0, 1);
        due.is("the retry goes to", x.letter(0, 1), 1);
    }

    @Holds("Answers: if the incarnation is its own: code 0")
    static void resultForAnOldIncarnation(Due due) {
        OnceCalls x = Steps.opened(2, 100, 0);
        Steps.ask(x, 0, 0, 1, 7L, 0L);
        x.sync(0);
        x.open(0);
        x.call(0, 0, 1, 1L, 0L);
        due.is("the old answer is to call 1", x.letter(0, 4), 1);
        due.is("it comes", x.deliver(0), 2);
        due.is("the new call 1 waits", x.state(0, 1), 0);
        due.is("without a result", x.result(0, 1), 0);
        due.is("none became DONE", x.count(3), 0);
    }

    @Holds("Answers: if the incarnation is its own: code 1")
    static void hintForAnOldIncarnation(Due due) {
        OnceCalls x = answeredElsewhere();
        x.open(0);
        x.call(0, 0, 1, 5L, 0L);
        x.deliver(0);
        due.is("the guess stays", x.client(0, 10), 0);
    }

    @Holds("Answers: if the incarnation is its own: code 3")
    static void refusalForAnOldIncarnation(Due due) {
        OnceCalls x = answeredNotLive();
        x.open(0);
        x.call(0, 0, 1, 5L, 0L);
        due.is("the old answer is to call 1", x.letter(0, 4), 1);
        x.deliver(0);
        due.is("the new call 1 waits", x.state(0, 1), 0);
    }

    @Holds("Answers: and that call waits: a result for a call that is DONE")
    static void doneOnce(Due due) {
        OnceCalls x = Steps.opened(2, 100, 0);
        x.call(0, 0, 1, 7L, 0L);
        x.twin(0);
        x.deliver(0);
        x.deliver(0);
        x.sync(0);
        x.deliver(0);
        due.is("became DONE", x.count(3), 1);
        due.is("the second answer", x.deliver(0), 2);
        due.is("became DONE still", x.count(3), 1);
        due.is("result", x.result(0, 1), 7);
    }

    @Holds("Answers: and that call waits: a result for a call that is REFUSED")
    static void refusedStaysRefused(Due due) {
        OnceCalls x = Steps.opened(2, 10, 0);
        x.call(0, 0, 1, 7L, 0L);
        x.twin(0);
        x.deliver(0);
        x.sync(0);
        x.ticks(11);
        x.deliver(0);
        due.is("code 3 comes", x.deliver(1), 2);
        due.is("refused", x.state(0, 1), 2);
        due.is("then the result of before", x.letter(0, 5), 0);
        x.deliver(0);
        due.is("refused still", x.state(0, 1), 2);
        due.is("no result", x.result(0, 1), 0);
        due.is("none became DONE", x.count(3), 0);
    }

    @Holds("Answers: and that call waits: a hint for a call that is DONE")
    static void hintForACallThatIsDone(Due due) {
        OnceCalls x = Steps.opened(2, 100, 0);
        x.call(0, 0, 1, 7L, 0L);
        x.twin(0);
        x.deliver(0);
        x.sync(0);
        x.deliver(1);
        Steps.moveOver(x, 0, 0, 1);
        x.deliver(0);
        due.is("code 1", x.letter(0, 5), 1);
        x.deliver(0);
        due.is("the guess stays", x.client(0, 10), 0);
    }

    @Holds("Answers: and that call waits: a refusal for a call that does not")
    static void refusalForACallThatDoesNotWait(Due due) {
        OnceCalls x = answeredNotLive();
        x.deliver(0);
        due.is("call 1 is refused", x.state(0, 1), 2);
        due.is("a call after that", x.call(0, 1, 1, 1L, 0L), 3);
        due.is("the same refusal again is for call", x.letter(0, 4), 1);
        x.deliver(0);
        due.is("call 3 waits", x.state(0, 3), 0);
    }

    @Holds("Answers: and that call waits: there is no such call")
    static void answerForACallThatIsNotThere(Due due) {
        OnceCalls x = Steps.opened(2, 100, 0);
        Steps.finish(x, 0, 0, 1, 7L, 0L);
        Steps.ask(x, 0, 0, 1, 7L, 0L);
        x.sync(0);
        x.open(0);
        due.is("an answer to call 2 comes, there are none", x.deliver(0), 2);
        due.is("calls", x.client(0, 3), 0);
        due.is("became DONE", x.count(3), 1);
    }

    @Holds("Answers: code 0: the call is DONE with the result")
    static void doneWithTheResult(Due due) {
        long[] results = {Long.MIN_VALUE, -1L, 0L, 1L << 32, Long.MAX_VALUE};
        for (long result : results) {
            OnceCalls x = Steps.opened(2, 100, 0);
            x.call(0, 1, 1, 1L, 0L);
            Steps.finish(x, 0, 0, 1, result, 0L);
            due.is("DONE", x.state(0, 2), 1);
            due.is("result", x.result(0, 2), result);
            due.is("the other waits", x.state(0, 1), 0);
        }
    }

    @Holds("Answers: 1: the guess of its key's bucket is the server that the result tells")
    static void guessOfTheBucket(Due due) {
        OnceCalls x = Steps.opened(4, 100, 0);
        Steps.moveOver(x, 3, 7, 2);
        Steps.ask(x, 0, 31, 1, 1L, 0L);
        Steps.deliverLast(x);
        for (int bucket = 0; bucket < 8; bucket++) {
            due.is("guess for " + bucket, x.client(0, 10 + bucket), bucket == 7 ? 2 : bucket % 4);
        }
        due.is("of another client", x.client(1, 17), 3);
        due.is("the call waits on", x.state(0, 1), 0);
        due.is("nothing is sent by itself", x.count(0), 0);
    }

    @Holds("Answers: 3: all calls of it that wait are REFUSED")
    static void allThatWaitAreRefused(Due due) {
        OnceCalls x = Steps.opened(2, 10, 0, 1);
        Steps.finish(x, 0, 0, 1, 7L, 0L);
        for (int n = 2; n <= 5; n++) {
            x.call(0, n, 1, 1L, 0L);
        }
        x.call(1, 0, 1, 1L, 0L);
        x.ticks(11);
        x.deliver(1);
        due.is("the answer to call 3 is", Steps.last(x, 5), 3);
        Steps.deliverLast(x);
        due.is("DONE stays", x.state(0, 1), 1);
        for (int n = 2; n <= 5; n++) {
            due.is("call " + n, x.state(0, n), 2);
        }
        due.is("waiting", x.client(0, 5), 0);
        due.is("another client's call waits", x.state(1, 1), 0);
    }

    @Holds("Answers: 2, 4: nothing (2)")
    static void laterIsNothing(Due due) {
        OnceCalls x = Steps.opened(2, 100, 0);
        x.move(0, 0, 1);
        x.sync(0);
        Steps.ask(x, 0, 0, 1, 1L, 0L);
        due.is("code", Steps.last(x, 5), 2);
        Steps.deliverLast(x);
        due.is("the call waits", x.state(0, 1), 0);
        due.is("the guess stays", x.client(0, 10), 0);
        due.is("none became DONE", x.count(3), 0);
    }

    @Holds("Answers: 2, 4: nothing (4)")
    static void oldIsNothing(Due due) {
        OnceCalls x = Steps.opened(2, 100, 0);
        x.call(0, 0, 1, 7L, 0L);
        x.twin(0);
        x.deliver(0);
        x.sync(0);
        x.deliver(1);
        x.ack(0, 0);
        x.deliver(1);
        x.sync(0);
        x.deliver(0);
        x.call(0, 0, 1, 1L, 0L);
        due.is("code", x.letter(0, 5), 4);
        due.is("it comes", x.deliver(0), 2);
        due.is("DONE stays", x.state(0, 1), 1);
        due.is("its result, too", x.result(0, 1), 7);
        due.is("the next waits", x.state(0, 2), 0);
        due.is("became DONE", x.count(3), 1);
    }
}
