/** Promises 1 (a new object), 2 (open), 3 (renew), 15 (ticks) and 20 (client). */
public final class LeaseTest {
    private static final Due DUE = new Due("LeaseTest");

    public static void main(String[] args) {
        newObject();
        numbersOfServers();
        lengthsOfLeases();
        opening();
        openingAnew();
        renewing();
        ticking();
        lookingAtClients();
        DUE.end();
    }

    private static void newObject() {
        OnceCalls x = new OnceCalls(3, 100);
        for (int what = 0; what <= 4; what++) {
            DUE.is("new: count(" + what + ")", x.count(what), 0);
        }
        for (int s = 0; s < 3; s++) {
            DUE.is("new: up", x.server(s, 0), 1);
            DUE.is("new: clean", x.server(s, 1), 1);
            DUE.is("new: held", x.server(s, 2), 0);
            DUE.is("new: records", x.server(s, 3), 0);
            for (int b = 0; b < 8; b++) {
                DUE.is("new: status", x.bucket(s, b, 0), b % 3 == s ? 1 : 0);
                DUE.is("new: version", x.bucket(s, b, 1), b % 3 == s ? 1 : 0);
                DUE.is("new: hint", x.bucket(s, b, 2), b % 3);
                for (int c = 0; c < 6; c++) {
                    DUE.is("new: incarnation", x.bucket(s, b, 10 + c), 0);
                    DUE.is("new: FIRST", x.bucket(s, b, 20 + c), 0);
                }
            }
            for (int key = 0; key < 32; key++) {
                DUE.is("new: value", x.value(s, key), 0);
            }
        }
    }

    private static void numbersOfServers() {
        int[] asked = {2, 3, 4, 1, 5, 0, -1, Integer.MIN_VALUE, Integer.MAX_VALUE};
        int[] made = {2, 3, 4, 3, 3, 3, 3, 3, 3};
        for (int i = 0; i < asked.length; i++) {
            OnceCalls x = new OnceCalls(asked[i], 10);
            DUE.is("last of " + asked[i], x.server(made[i] - 1, 0), 1);
            DUE.is("one behind the last of " + asked[i], x.server(made[i], 0), -1);
            for (int b = 0; b < 8; b++) {
                DUE.is("guess of " + b + " with " + asked[i], x.client(5, 10 + b), b % made[i]);
                DUE.is("owner of " + b + " with " + asked[i], x.bucket(b % made[i], b, 0), 1);
            }
        }
    }

    private static void lengthsOfLeases() {
        int[] asked = {1, 2, 1000, 0, 1001, -1, Integer.MIN_VALUE, Integer.MAX_VALUE};
        int[] made = {1, 2, 1000, 50, 50, 50, 50, 50};
        for (int i = 0; i < asked.length; i++) {
            OnceCalls x = new OnceCalls(2, asked[i]);
            x.ticks(7);
            x.open(3);
            DUE.is("end of a lease of " + asked[i], x.client(3, 1), 7 + made[i]);
        }
    }

    private static void opening() {
        OnceCalls x = new OnceCalls(2, 10);
        DUE.is("open(-1)", x.open(-1), -1);
        DUE.is("open(6)", x.open(6), -1);
        DUE.is("open(MIN)", x.open(Integer.MIN_VALUE), -1);
        DUE.is("open(5)", x.open(5), 1);
        DUE.is("open(0)", x.open(0), 2);
        DUE.is("open(5) anew", x.open(5), 3);
        DUE.is("incarnation of 0", x.client(0, 0), 2);
        DUE.is("incarnation of 5", x.client(5, 0), 3);
        DUE.is("an opening sends nothing", x.count(0), 0);
    }

    private static void openingAnew() {
        OnceCalls x = new OnceCalls(2, 10);
        x.open(0);
        x.call(0, 1, 0, 5L, 0L);
        x.call(0, 1, 0, 6L, 0L);
        x.ticks(4);
        DUE.is("anew", x.open(0), 2);
        DUE.is("no calls", x.client(0, 3), 0);
        DUE.is("none waits", x.client(0, 5), 0);
        DUE.is("FIRST", x.client(0, 4), 1);
        DUE.is("lease", x.client(0, 1), 14);
        DUE.is("call 1 is not there", x.state(0, 1), -1);
        DUE.is("retry of it", x.retry(0, 1), -1);
        DUE.is("the old request's answer", x.deliver(0), 1);
        DUE.is("is 3", x.letter(1, 5), 3);
        x.call(0, 1, 0, 7L, 0L);
        DUE.is("the old answer comes", x.deliver(1), 2);
        DUE.is("it is not for this incarnation", x.state(0, 1), 0);
        OnceCalls over = new OnceCalls(2, 10);
        over.open(0);
        over.ticks(11);
        DUE.is("open after the lease", over.open(0), 2);
        DUE.is("live again", over.client(0, 2), 1);
    }

    private static void renewing() {
        OnceCalls x = new OnceCalls(2, 10);
        DUE.is("renew(-1)", x.renew(-1), -1);
        DUE.is("renew(6)", x.renew(6), -1);
        DUE.is("renew before open", x.renew(0), -3);
        x.open(0);
        DUE.is("renew at once", x.renew(0), 10);
        x.ticks(10);
        DUE.is("renew at the end", x.renew(0), 20);
        DUE.is("lease then", x.client(0, 1), 20);
        x.ticks(11);
        DUE.is("renew too late", x.renew(0), -3);
        DUE.is("changes nothing", x.client(0, 1), 20);
        DUE.is("not live", x.client(0, 2), 0);
        DUE.is("incarnation stays", x.client(0, 0), 1);
    }

    private static void ticking() {
        OnceCalls x = new OnceCalls(2, 10);
        DUE.is("ticks(0)", x.ticks(0), 0);
        DUE.is("ticks(1000)", x.ticks(1000), 1000);
        DUE.is("ticks(1)", x.ticks(1), 1001);
        DUE.is("ticks(1001)", x.ticks(1001), -1);
        DUE.is("ticks(-1)", x.ticks(-1), -1);
        DUE.is("ticks(MIN)", x.ticks(Integer.MIN_VALUE), -1);
        DUE.is("time", x.count(4), 1001);
    }

    private static void lookingAtClients() {
        OnceCalls x = new OnceCalls(4, 10);
        DUE.is("client(-1, 0)", x.client(-1, 0), -1);
        DUE.is("client(6, 0)", x.client(6, 0), -1);
        int[] absent = {-1, 6, 7, 8, 9, 18, 19, 20, Integer.MIN_VALUE, Integer.MAX_VALUE};
        for (int what : absent) {
            DUE.is("client(0, " + what + ")", x.client(0, what), -1);
        }
        DUE.is("incarnation before", x.client(0, 0), 0);
        DUE.is("lease before", x.client(0, 1), 0);
        DUE.is("live before", x.client(0, 2), 0);
        DUE.is("calls before", x.client(0, 3), 0);
        DUE.is("FIRST before", x.client(0, 4), 1);
        DUE.is("waiting before", x.client(0, 5), 0);
        x.open(0);
        x.call(0, 0, 0, 1L, 0L);
        x.call(0, 1, 0, 1L, 0L);
        x.call(0, 2, 0, 1L, 0L);
        x.deliver(1);
        x.sync(1);
        x.deliver(2);
        DUE.is("calls", x.client(0, 3), 3);
        DUE.is("FIRST", x.client(0, 4), 1);
        DUE.is("waiting", x.client(0, 5), 2);
        x.deliver(0);
        x.sync(0);
        x.deliver(1);
        DUE.is("FIRST skips what is done", x.client(0, 4), 3);
        x.ticks(10);
        DUE.is("live at the end", x.client(0, 2), 1);
        x.ticks(1);
        DUE.is("not above it", x.client(0, 2), 0);
    }
}
