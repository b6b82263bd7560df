import java.util.Random;

/** No call throws, whatever its arguments, in any state, and long after the 512 calls that are promised. */
public final class WildTest {
    private static final int[] EDGES = {Integer.MIN_VALUE, Integer.MIN_VALUE + 1, -4, -3, -2, -1, 0, 1, 2, 3, 4, 5, 6,
        7, 8, 11, 12, 13, 31, 32, 59, 60, 61, 399, 400, 401, 511, 512, 513, 1000, 1001, Integer.MAX_VALUE - 1,
        Integer.MAX_VALUE};

    public static void main(String[] args) {
        Due due = new Due("WildTest");
        for (int run = 0; run < 60; run++) {
            Random random = new Random(run);
            OnceCalls x = new OnceCalls(edge(random), edge(random));
            // Some runs only fill what has a bound: letters that are held, letters in the row.
            int usual = run % 3;
            String last = "none";
            try {
                for (int n = 0; n < 6000; n++) {
                    int kind = usual == 0 ? random.nextInt(23) : usual == 1 ? fillHeld(random) : random.nextInt(14);
                    last = "kind " + kind + " as call " + n + " of run " + run;
                    play(x, kind, random, usual);
                }
                due.is("run " + run, x.count(0) <= 400 ? 1 : 0, 1);
            } catch (RuntimeException thrown) {
                System.out.println(last + " threw " + thrown);
                due.is("run " + run, 0, 1);
            }
        }
        due.end();
    }

    private static int fillHeld(Random random) {
        int[] kinds = {0, 2, 5, 5, 5, 5, 7, 7, 11, 11};
        return kinds[random.nextInt(kinds.length)];
    }

    private static int edge(Random random) {
        return EDGES[random.nextInt(EDGES.length)];
    }

    private static int near(Random random, int bound, int usual) {
        return usual == 0 && random.nextInt(3) == 0 ? edge(random) : random.nextInt(bound);
    }

    private static void play(OnceCalls x, int kind, Random random, int usual) {
        int c = near(random, 6, usual);
        int s = near(random, 4, usual);
        int b = near(random, 8, usual);
        int i = near(random, 1 + x.count(0), usual);
        int what = near(random, 27, usual);
        switch (kind) {
            case 0 -> x.open(c);
            case 1 -> x.renew(c);
            case 2 -> x.call(c, near(random, 32, usual), near(random, 4, usual), random.nextLong(), random.nextLong());
            case 3 -> x.retry(c, near(random, 61, usual));
            case 4 -> x.ack(c, s);
            case 5 -> x.deliver(i);
            case 6 -> x.drop(i);
            case 7 -> x.twin(i);
            case 8 -> x.sync(s);
            case 9 -> x.crash(s);
            case 10 -> x.start(s);
            case 11 -> x.move(s, b, near(random, 4, usual));
            case 12 -> x.collect(s);
            case 13 -> x.ticks(near(random, 1001, usual));
            case 14 -> x.server(s, what);
            case 15 -> x.bucket(s, b, what);
            case 16 -> x.value(s, what);
            case 17 -> x.record(s, b, near(random, 13, usual), what);
            case 18 -> x.client(c, what);
            case 19 -> x.state(c, what);
            case 20 -> x.result(c, what);
            case 21 -> x.letter(i, what);
            default -> x.count(what);
        }
    }
}
