/** Promises 4 (call), 5 (retry), 6 (ack), 21 (state) and 22 (result). */
public final class CallTest {
    private static final Due DUE = new Due("CallTest");

    public static void main(String[] args) {
        callingWrongly();
        calling();
        fourWait();
        sixtyCalls();
        retrying();
        retryTellsFirstAndGuessOfNow();
        acking();
        statesAndResults();
        refusedCalls();
        answersThatChangeNothing();
        DUE.end();
    }

    private static void callingWrongly() {
        OnceCalls x = new OnceCalls(2, 10);
        int[][] wrong = {{-1, 0, 0}, {6, 0, 0}, {0, -1, 0}, {0, 32, 0}, {0, 0, -1}, {0, 0, 4},
            {Integer.MIN_VALUE, 0, 0}, {0, Integer.MAX_VALUE, 0}};
        for (int[] w : wrong) {
            DUE.is("before open: NONE first", x.call(w[0], w[1], w[2], 1L, 1L), -1);
        }
        DUE.is("before open", x.call(0, 0, 0, 1L, 1L), -3);
        x.open(0);
        for (int[] w : wrong) {
            DUE.is("after open", x.call(w[0], w[1], w[2], 1L, 1L), -1);
        }
        DUE.is("nothing was sent", x.count(0), 0);
        DUE.is("nothing was called", x.client(0, 3), 0);
    }

    private static void calling() {
        OnceCalls x = new OnceCalls(3, 10);
        x.open(2);
        x.open(4);
        DUE.is("call", x.call(4, 31, 3, 2L, 0L), 1);
        DUE.is("another", x.call(4, 0, 0, 2L, 0L), 2);
        DUE.is("of another client", x.call(2, 5, 1, 2L, 0L), 1);
        long[][] letters = {{1, 7 % 3, 4, 2, 1, 1}, {1, 0, 4, 2, 2, 1}, {1, 5 % 3, 2, 1, 1, 1}};
        for (int i = 0; i < letters.length; i++) {
            for (int what = 0; what <= 5; what++) {
                DUE.is("letter(" + i + ", " + what + ")", x.letter(i, what), letters[i][what]);
            }
        }
        x.ticks(11);
        DUE.is("a call needs no live lease", x.call(4, 0, 0, 2L, 0L), 3);
    }

    private static void fourWait() {
        OnceCalls x = new OnceCalls(2, 10);
        x.open(0);
        for (int n = 1; n <= 4; n++) {
            DUE.is("call " + n, x.call(0, 0, 1, 1L, 0L), n);
        }
        DUE.is("a fifth", x.call(0, 0, 1, 1L, 0L), -2);
        DUE.is("a fifth with a wrong key", x.call(0, 32, 1, 1L, 0L), -1);
        DUE.is("sends nothing", x.count(0), 4);
        x.deliver(2);
        x.sync(0);
        x.deliver(3);
        DUE.is("one is done", x.call(0, 0, 1, 1L, 0L), 5);
        DUE.is("four wait again", x.call(0, 0, 1, 1L, 0L), -2);
    }

    private static void sixtyCalls() {
        OnceCalls x = new OnceCalls(2, 1000);
        x.open(0);
        for (int n = 1; n <= 60; n++) {
            DUE.is("call", x.call(0, 0, 1, 1L, 0L), n);
            x.deliver(0);
            x.sync(0);
            x.deliver(0);
        }
        DUE.is("result of the last", x.result(0, 60), 60);
        DUE.is("it had 60", x.call(0, 0, 1, 1L, 0L), -2);
        DUE.is("none waits", x.client(0, 5), 0);
        DUE.is("FIRST is 61", x.client(0, 4), 61);
        DUE.is("ack tells it", x.ack(0, 0), 61);
        x.open(0);
        DUE.is("opened anew", x.call(0, 0, 1, 1L, 0L), 1);
    }

    private static void retrying() {
        OnceCalls x = new OnceCalls(2, 10);
        DUE.is("never opened", x.retry(0, 1), -1);
        x.open(0);
        x.call(0, 9, 1, 5L, 6L);
        DUE.is("retry(-1, 1)", x.retry(-1, 1), -1);
        DUE.is("retry(6, 1)", x.retry(6, 1), -1);
        DUE.is("retry(0, 0)", x.retry(0, 0), -1);
        DUE.is("retry(0, 2)", x.retry(0, 2), -1);
        DUE.is("retry(0, MIN)", x.retry(0, Integer.MIN_VALUE), -1);
        DUE.is("nothing sent", x.count(0), 1);
        DUE.is("retry", x.retry(0, 1), 1);
        for (int what = 0; what <= 5; what++) {
            DUE.is("the same, " + what, x.letter(1, what), x.letter(0, what));
        }
        x.drop(0);
        x.deliver(0);
        DUE.is("key, act and a are the same", x.value(1, 9), 5);
        x.sync(1);
        x.deliver(0);
        DUE.is("it is done", x.retry(0, 1), 0);
        DUE.is("and nothing goes", x.count(0), 0);
    }

    private static void retryTellsFirstAndGuessOfNow() {
        OnceCalls x = new OnceCalls(2, 100);
        x.open(0);
        x.call(0, 0, 1, 1L, 0L);
        x.call(0, 0, 1, 1L, 0L);
        x.deliver(0);
        x.sync(0);
        x.deliver(1);
        DUE.is("told FIRST 1", x.letter(0, 5), 1);
        x.retry(0, 2);
        DUE.is("a retry tells FIRST 2", x.letter(1, 5), 2);
        x.move(0, 0, 1);
        x.sync(0);
        x.deliver(2);
        x.sync(1);
        x.deliver(2);
        x.deliver(0);
        x.sync(0);
        x.deliver(1);
        DUE.is("the guess is new", x.client(0, 10), 1);
        x.retry(0, 2);
        DUE.is("a retry goes there", x.letter(1, 1), 1);
    }

    private static void acking() {
        OnceCalls x = new OnceCalls(2, 10);
        DUE.is("ack(6, 0)", x.ack(6, 0), -1);
        DUE.is("ack(-1, 0)", x.ack(-1, 0), -1);
        DUE.is("ack(0, 2): NONE first", x.ack(0, 2), -1);
        DUE.is("ack(0, -1)", x.ack(0, -1), -1);
        DUE.is("never opened", x.ack(0, 0), -3);
        DUE.is("nothing sent", x.count(0), 0);
        x.open(1);
        x.open(0);
        DUE.is("no calls yet", x.ack(0, 1), 1);
        long[] ack = {5, 1, 0, 2, 1, 0};
        for (int what = 0; what <= 5; what++) {
            DUE.is("ack letter, " + what, x.letter(0, what), ack[what]);
        }
        x.call(0, 0, 1, 1L, 0L);
        x.call(0, 0, 1, 1L, 0L);
        DUE.is("1 waits", x.ack(0, 0), 1);
        x.ticks(11);
        DUE.is("an ack needs no live lease", x.ack(0, 0), 1);
    }

    private static void statesAndResults() {
        OnceCalls x = new OnceCalls(2, 10);
        DUE.is("never opened", x.state(0, 1), -1);
        DUE.is("its result", x.result(0, 1), 0);
        x.open(0);
        x.call(0, 0, 0, 8L, 0L);
        x.call(0, 0, 1, 5L, 0L);
        DUE.is("state(-1, 1)", x.state(-1, 1), -1);
        DUE.is("state(6, 1)", x.state(6, 1), -1);
        DUE.is("state(0, 0)", x.state(0, 0), -1);
        DUE.is("state(0, 3)", x.state(0, 3), -1);
        DUE.is("result(-1, 1)", x.result(-1, 1), 0);
        DUE.is("result(6, 1)", x.result(6, 1), 0);
        DUE.is("result(0, 0)", x.result(0, 0), 0);
        DUE.is("result(0, 3)", x.result(0, 3), 0);
        DUE.is("waits", x.state(0, 2), 0);
        x.deliver(0);
        x.deliver(0);
        DUE.is("still waits", x.state(0, 2), 0);
        DUE.is("no result yet", x.result(0, 2), 0);
        x.sync(0);
        x.deliver(1);
        DUE.is("done", x.state(0, 2), 1);
        DUE.is("its result", x.result(0, 2), 13);
        DUE.is("the other waits", x.state(0, 1), 0);
        DUE.is("done in all", x.count(3), 1);
        x.open(0);
        x.call(0, 0, 0, 8L, 0L);
        x.call(0, 0, 0, 8L, 0L);
        DUE.is("no old result", x.result(0, 2), 0);
        DUE.is("no old state", x.state(0, 2), 0);
        DUE.is("done stays counted", x.count(3), 1);
    }

    private static void refusedCalls() {
        OnceCalls x = new OnceCalls(2, 10);
        x.open(0);
        x.call(0, 0, 0, 8L, 0L);
        x.deliver(0);
        x.sync(0);
        x.deliver(0);
        x.call(0, 0, 0, 9L, 0L);
        x.call(0, 1, 0, 9L, 0L);
        x.ticks(11);
        x.deliver(0);
        DUE.is("code 3", x.letter(1, 5), 3);
        DUE.is("not refused before it comes", x.state(0, 2), 0);
        x.deliver(1);
        DUE.is("done stays", x.state(0, 1), 1);
        DUE.is("2 is refused", x.state(0, 2), 2);
        DUE.is("3, too", x.state(0, 3), 2);
        DUE.is("no result", x.result(0, 2), 0);
        DUE.is("FIRST", x.client(0, 4), 4);
        DUE.is("none waits", x.client(0, 5), 0);
        DUE.is("retry of a refused call", x.retry(0, 2), 0);
        DUE.is("value stays", x.value(0, 0), 8);
        DUE.is("no effect", x.count(2), 1);
    }

    private static void answersThatChangeNothing() {
        OnceCalls x = new OnceCalls(2, 100);
        x.open(0);
        x.call(0, 0, 1, 3L, 0L);
        x.twin(0);
        x.deliver(0);
        x.deliver(0);
        x.sync(0);
        x.deliver(0);
        DUE.is("done", x.count(3), 1);
        DUE.is("the same answer again", x.deliver(0), 2);
        DUE.is("is not counted again", x.count(3), 1);
        DUE.is("result", x.result(0, 1), 3);
        x.move(0, 0, 1);
        x.sync(0);
        x.call(0, 0, 1, 3L, 0L);
        x.deliver(1);
        DUE.is("code 2", x.letter(1, 5), 2);
        x.deliver(1);
        DUE.is("waits on", x.state(0, 2), 0);
        DUE.is("guess stays", x.client(0, 10), 0);
    }
}
