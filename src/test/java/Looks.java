import java.util.ArrayList;
import java.util.List;
import java.util.function.Consumer;
import java.util.function.Supplier;
import java.util.function.ToLongFunction;

/**
 * Tells whether a call changes anything that can be looked at. The looks are spread over new objects that all came the
 * same way, so that none of them is used for more calls than are promised.
 */
final class Looks {
    private static final int LOOKS_OF_AN_OBJECT = 40;
    private static final List<String> NAMES = new ArrayList<>();
    private static final List<ToLongFunction<OnceCalls>> LOOKS = new ArrayList<>();

    static {
        counts();
        letters();
        servers();
        clients();
    }

    private Looks() {
    }

    /** All looks after the way and the call are as after the way alone. */
    static void same(Due due, String call, Supplier<OnceCalls> way, Consumer<OnceCalls> refused) {
        for (int from = 0; from < LOOKS.size(); from += LOOKS_OF_AN_OBJECT) {
            OnceCalls with = way.get();
            refused.accept(with);
            OnceCalls without = way.get();
            int to = Math.min(LOOKS.size(), from + LOOKS_OF_AN_OBJECT);
            for (int i = from; i < to; i++) {
                ToLongFunction<OnceCalls> look = LOOKS.get(i);
                due.is(NAMES.get(i) + " after " + call, look.applyAsLong(with), look.applyAsLong(without));
            }
        }
    }

    private static void add(String name, ToLongFunction<OnceCalls> look) {
        NAMES.add(name);
        LOOKS.add(look);
    }

    private static void counts() {
        for (int w = 0; w <= 4; w++) {
            int what = w;
            add("count(" + what + ")", x -> x.count(what));
        }
    }

    private static void letters() {
        int[] places = {0, 1, 2, 3, 4, 5, 398, 399, 400};
        for (int i : places) {
            for (int w = 0; w <= 5; w++) {
                int what = w;
                add("letter(" + i + ", " + what + ")", x -> x.letter(i, what));
            }
        }
    }

    private static void servers() {
        for (int s = 0; s < 4; s++) {
            int server = s;
            for (int w = 0; w <= 3; w++) {
                int what = w;
                add("server(" + server + ", " + what + ")", x -> x.server(server, what));
            }
            for (int k = 0; k < 32; k++) {
                int key = k;
                add("value(" + server + ", " + key + ")", x -> x.value(server, key));
            }
            for (int b = 0; b < 8; b++) {
                buckets(server, b);
            }
        }
    }

    private static void buckets(int server, int bucket) {
        int[] whats = {0, 1, 2, 3, 10, 11, 12, 13, 14, 15, 20, 21, 22, 23, 24, 25};
        for (int what : whats) {
            add("bucket(" + server + ", " + bucket + ", " + what + ")", x -> x.bucket(server, bucket, what));
        }
        for (int i = 0; i < 12; i++) {
            int place = i;
            for (int w = 0; w <= 2; w++) {
                int what = w;
                add("record(" + server + ", " + bucket + ", " + place + ", " + what + ")",
                    x -> x.record(server, bucket, place, what));
            }
        }
    }

    private static void clients() {
        int[] whats = {0, 1, 2, 3, 4, 5, 10, 11, 12, 13, 14, 15, 16, 17};
        for (int c = 0; c < 6; c++) {
            int client = c;
            for (int what : whats) {
                add("client(" + client + ", " + what + ")", x -> x.client(client, what));
            }
            for (int n = 1; n <= 6; n++) {
                int number = n;
                add("state(" + client + ", " + number + ")", x -> x.state(client, number));
                add("result(" + client + ", " + number + ")", x -> x.result(client, number));
            }
        }
    }
}
