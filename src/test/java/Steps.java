/** Steps that many tests take. A letter that was just sent is the last of the row. */
final class Steps {
    private Steps() {
    }

    static OnceCalls opened(int servers, int lease, int... clients) {
        OnceCalls x = new OnceCalls(servers, lease);
        for (int client : clients) {
            x.open(client);
        }
        return x;
    }

    /** What the last letter of the row tells. */
    static int last(OnceCalls x, int what) {
        return x.letter(x.count(0) - 1, what);
    }

    static int deliverLast(OnceCalls x) {
        return x.deliver(x.count(0) - 1);
    }

    /** A call whose request comes to its server, which stays as that leaves it. */
    static int ask(OnceCalls x, int client, int key, int act, long a, long b) {
        int number = x.call(client, key, act, a, b);
        deliverLast(x);
        return number;
    }

    /** A call that comes to a clean server, is kept there, and is answered. */
    static int finish(OnceCalls x, int client, int key, int act, long a, long b) {
        int number = x.call(client, key, act, a, b);
        int server = last(x, 1);
        deliverLast(x);
        x.sync(server);
        deliverLast(x);
        return number;
    }

    /** A retry whose request comes to a clean server that changes nothing by it: the code of the answer. */
    static int codeOfRetry(OnceCalls x, int client, int number) {
        x.retry(client, number);
        deliverLast(x);
        return last(x, 5);
    }

    /** A bucket moves, and both clean servers know and keep it. */
    static void moveOver(OnceCalls x, int from, int bucket, int to) {
        x.move(from, bucket, to);
        x.sync(from);
        deliverLast(x);
        x.sync(to);
        deliverLast(x);
        x.sync(from);
    }

    /** Makes the row of an object that has a letter full, with twins of its letter 0. */
    static void fillRow(OnceCalls x) {
        for (int letters = x.count(0); letters < 400; letters++) {
            x.twin(0);
        }
    }

    /** One bucket with 12 records, of clients 0 .. 2 with four each, at server 0 of 2, kept; the answers are lost. */
    static OnceCalls twelveRecords() {
        OnceCalls x = opened(2, 100, 0, 1, 2, 3);
        for (int client = 0; client < 3; client++) {
            for (int n = 1; n <= 4; n++) {
                ask(x, client, 0, 1, 1L, 0L);
            }
        }
        x.sync(0);
        for (int i = 0; i < 12; i++) {
            x.drop(0);
        }
        return x;
    }

    /** Clients 0 and 1 have three records each in bucket 0 at server 0 of 2, kept, and all answers are in the row. */
    static OnceCalls threeEach() {
        OnceCalls x = opened(2, 100, 0, 1);
        for (int n = 1; n <= 3; n++) {
            ask(x, 0, 0, 1, 1L, 0L);
            ask(x, 1, 0, 1, 10L, 0L);
        }
        x.sync(0);
        return x;
    }

    /** The records of a bucket are of these clients and numbers, in this order, and no more. */
    static void numbersAre(Due due, OnceCalls x, int server, int bucket, int... clientsAndNumbers) {
        due.is("records", x.bucket(server, bucket, 3), clientsAndNumbers.length / 2);
        for (int i = 0; i < clientsAndNumbers.length / 2; i++) {
            due.is("client of record " + i, x.record(server, bucket, i, 0), clientsAndNumbers[2 * i]);
            due.is("number of record " + i, x.record(server, bucket, i, 2), clientsAndNumbers[2 * i + 1]);
        }
    }

    /** STATUS, VERSION, HINT and records of a bucket. */
    static void bucketIs(Due due, String when, OnceCalls x, int server, int bucket, int... parts) {
        for (int what = 0; what < parts.length; what++) {
            due.is(when + ", bucket(" + server + ", " + bucket + ", " + what + ")",
                x.bucket(server, bucket, what), parts[what]);
        }
    }
}
