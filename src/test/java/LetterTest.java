/** Promises 7 (deliver), 8 (drop), 9 (twin), 23 (letter) and 24 (count). */
public final class LetterTest {
    private static final Due DUE = new Due("LetterTest");

    public static void main(String[] args) {
        whatIsNotThere();
        orderOfTheRow();
        lostAtServersThatAreDown();
        fullRow();
        lostWhenHeldLettersGo();
        lettersOfEachKind();
        counting();
        DUE.end();
    }

    private static void whatIsNotThere() {
        OnceCalls x = new OnceCalls(2, 10);
        x.open(0);
        x.call(0, 0, 0, 1L, 0L);
        int[] absent = {-1, 1, 400, Integer.MIN_VALUE, Integer.MAX_VALUE};
        for (int i : absent) {
            DUE.is("deliver(" + i + ")", x.deliver(i), -1);
            DUE.is("drop(" + i + ")", x.drop(i), -1);
            DUE.is("twin(" + i + ")", x.twin(i), -1);
            DUE.is("letter(" + i + ", 0)", x.letter(i, 0), -1);
            DUE.is("letter(0, what)", x.letter(0, i == 1 ? 6 : i), -1);
        }
        DUE.is("letters", x.count(0), 1);
        DUE.is("lost", x.count(1), 0);
        int[] counts = {-1, 5, Integer.MIN_VALUE, Integer.MAX_VALUE};
        for (int what : counts) {
            DUE.is("count(" + what + ")", x.count(what), -1);
        }
    }

    private static void orderOfTheRow() {
        OnceCalls x = new OnceCalls(2, 10);
        x.open(0);
        for (int n = 1; n <= 4; n++) {
            x.call(0, 0, 0, n, 0L);
        }
        DUE.is("drop(1)", x.drop(1), 1);
        DUE.is("twin(0)", x.twin(0), 1);
        long[] numbers = {1, 3, 4, 1};
        for (int i = 0; i < numbers.length; i++) {
            DUE.is("number of letter " + i, x.letter(i, 4), numbers[i]);
        }
        DUE.is("deliver(1)", x.deliver(1), 1);
        DUE.is("value", x.value(0, 0), 3);
        DUE.is("letters", x.count(0), 3);
        DUE.is("letter(1, 4)", x.letter(1, 4), 4);
        DUE.is("lost", x.count(1), 1);
    }

    private static void lostAtServersThatAreDown() {
        OnceCalls x = new OnceCalls(2, 10);
        x.open(0);
        x.call(0, 0, 0, 1L, 0L);
        x.ack(0, 0);
        x.move(1, 1, 0);
        x.sync(1);
        x.deliver(2);
        x.sync(0);
        x.move(0, 0, 1);
        x.sync(0);
        DUE.is("kinds", x.letter(0, 0) * 1000 + x.letter(1, 0) * 100 + x.letter(2, 0) * 10 + x.letter(3, 0), 1543);
        x.crash(0);
        x.crash(1);
        DUE.is("a request", x.deliver(0), 11);
        DUE.is("an ack", x.deliver(0), 15);
        DUE.is("a taken", x.deliver(0), 14);
        DUE.is("a move", x.deliver(0), 13);
        DUE.is("all lost", x.count(1), 4);
        DUE.is("no more in the row", x.count(0), 0);
        OnceCalls y = new OnceCalls(2, 10);
        y.open(0);
        y.call(0, 0, 1, 4L, 0L);
        y.deliver(0);
        y.sync(0);
        y.crash(0);
        DUE.is("an answer comes all the same", y.deliver(0), 2);
        DUE.is("result", y.result(0, 1), 4);
    }

    private static void fullRow() {
        OnceCalls x = new OnceCalls(2, 1000);
        x.open(0);
        x.call(0, 0, 1, 4L, 0L);
        for (int i = 1; i < 400; i++) {
            DUE.is("twin", x.twin(0), 1);
        }
        DUE.is("letters", x.count(0), 400);
        DUE.is("one twin more", x.twin(399), -2);
        DUE.is("NONE first", x.twin(400), -1);
        DUE.is("nothing lost yet", x.count(1), 0);
        DUE.is("a call", x.call(0, 0, 1, 4L, 0L), 2);
        DUE.is("its letter is lost", x.count(1), 1);
        DUE.is("a retry", x.retry(0, 2), 1);
        DUE.is("an ack", x.ack(0, 0), 1);
        DUE.is("lost, too", x.count(1), 3);
        DUE.is("letters still", x.count(0), 400);
        x.drop(399);
        DUE.is("there is room again", x.retry(0, 2), 1);
        DUE.is("letters again", x.count(0), 400);
        x.crash(0);
        x.start(0);
        DUE.is("a letter that came makes room", x.deliver(399), 1);
        x.sync(0);
        DUE.is("for the answer", x.count(0), 400);
        DUE.is("which is there", x.letter(399, 0), 2);
    }

    private static void lostWhenHeldLettersGo() {
        OnceCalls x = new OnceCalls(2, 1000);
        x.open(0);
        x.call(0, 0, 1, 4L, 0L);
        x.twin(0);
        x.twin(0);
        for (int i = 0; i < 3; i++) {
            x.deliver(0);
        }
        x.call(0, 0, 1, 5L, 0L);
        for (int i = 1; i < 398; i++) {
            x.twin(0);
        }
        DUE.is("letters", x.count(0), 398);
        DUE.is("three are held", x.sync(0), 3);
        DUE.is("two have room", x.count(0), 400);
        DUE.is("one is lost", x.count(1), 1);
        DUE.is("none is held", x.server(0, 2), 0);
        x.move(0, 0, 1);
        DUE.is("a move is held", x.sync(0), 1);
        DUE.is("and lost as it goes", x.count(1), 2);
        DUE.is("again, at once", x.move(0, 0, 1), 2);
        DUE.is("lost, too", x.count(1), 3);
    }

    private static void shown(String name, OnceCalls x, int i, long... parts) {
        for (int what = 0; what <= 5; what++) {
            DUE.is(name + ", letter(" + i + ", " + what + ")", x.letter(i, what), parts[what]);
        }
        DUE.is(name + ", what = 6", x.letter(i, 6), -1);
    }

    private static void lettersOfEachKind() {
        OnceCalls x = new OnceCalls(3, 100);
        x.open(2);
        x.open(4);
        x.call(4, 13, 1, 1L, 0L);
        x.call(4, 13, 1, 1L, 0L);
        shown("request", x, 1, 1, 2, 4, 2, 2, 1);
        x.deliver(0);
        x.deliver(0);
        x.sync(2);
        shown("answer", x, 0, 2, 4, 2, 2, 1, 0);
        shown("answer", x, 1, 2, 4, 2, 2, 2, 0);
        x.deliver(0);
        x.ack(4, 1);
        shown("ack", x, 1, 5, 1, 4, 2, 2, 0);
        x.move(2, 5, 0);
        x.sync(2);
        shown("move", x, 2, 3, 0, 2, 2, 5, 2);
        x.deliver(2);
        x.sync(0);
        shown("taken", x, 2, 4, 2, 0, 2, 5, 0);
        x.twin(2);
        shown("twin of taken", x, 3, 4, 2, 0, 2, 5, 0);
        x.deliver(2);
        x.sync(2);
        x.call(4, 5, 0, 1L, 0L);
        x.deliver(3);
        shown("answer 1", x, 3, 2, 4, 2, 2, 3, 1);
    }

    private static void counting() {
        OnceCalls x = new OnceCalls(2, 5);
        x.open(0);
        x.call(0, 0, 2, 1L, 9L);
        x.call(0, 8, 0, 1L, 0L);
        x.deliver(0);
        DUE.is("an effect that takes nothing", x.count(2), 1);
        x.retry(0, 1);
        x.deliver(1);
        DUE.is("no effect twice", x.count(2), 1);
        x.deliver(0);
        DUE.is("effects", x.count(2), 2);
        DUE.is("held letters are not lost", x.count(1), 0);
        DUE.is("nor in the row", x.count(0), 0);
        DUE.is("three held", x.crash(0), 3);
        DUE.is("lost", x.count(1), 3);
        DUE.is("effects stay counted", x.count(2), 2);
        x.start(0);
        x.retry(0, 1);
        x.deliver(0);
        DUE.is("an effect anew", x.count(2), 3);
        x.ticks(6);
        x.retry(0, 2);
        x.deliver(0);
        DUE.is("no effect when the lease is over", x.count(2), 3);
        x.sync(0);
        x.deliver(0);
        x.deliver(0);
        DUE.is("became done", x.count(3), 1);
        DUE.is("time", x.count(4), 6);
    }
}
