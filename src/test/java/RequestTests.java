/** Promises 14 and 15: readers request keys and write values. */
final class RequestTests {
    private static final int UNKNOWN = ShardTrails.UNKNOWN;
    private static final int BAD_VALUE = ShardTrails.BAD_VALUE;

    private RequestTests() {
    }

    static void run() {
        request();
        requestWrong();
        hopsAndCries();
        innsSentTo();
        innInTheFirstPasture();
        heat();
        write();
        writeWrong();
    }

    private static void request() {
        Check.promise(14, "request");
        ShardTrails x = new ShardTrails();
        x.addPasture(0, 16, false);
        x.addPasture(0, 16, false);
        x.addReader(0);
        x.addReader(1);
        x.move(3, 1);
        x.move(3, 2);
        Check.due("by two tracks", x.request(0, 48), 2);
        Check.due("it remembers", x.remembered(0, 3), 2);
        Check.due("heat", x.shard(3, 1), 20);
        Check.due("heat of another one", x.shard(2, 1), 0);
        Check.due("states", x.count(13), 4);
        Check.due("at once", x.request(0, 63), 0);
        Check.due("by one track", x.request(1, 50), 1);
        Check.due("heat", x.shard(3, 1), 60);
        int[] first = {0, 2, 2, 0, 2};
        int[] second = {1, 1, 1, 0, 1};
        for (int what = 0; what < first.length; what++) {
            Check.due("reader(0, " + what + ")", x.reader(0, what), first[what]);
            Check.due("reader(1, " + what + ")", x.reader(1, what), second[what]);
        }
        Check.due("requests", x.count(11), 3);
        Check.due("value", x.value(48), 0);
        x.undo();
        Check.due("heat", x.shard(3, 1), 40);
        Check.due("requests", x.count(11), 2);
        Check.due("it remembers its home", x.remembered(1, 3), 1);
        Check.due("its hops", x.reader(1, 2), 0);
    }

    private static void requestWrong() {
        ShardTrails x = new ShardTrails();
        Check.due("no reader", x.request(0, 0), UNKNOWN);
        x.addReader(0);
        Check.due("reader -1", x.request(-1, 0), UNKNOWN);
        Check.due("reader 1", x.request(1, 0), UNKNOWN);
        Check.due("key -1", x.request(0, -1), UNKNOWN);
        Check.due("key 256", x.request(0, 256), UNKNOWN);
        Check.due("least key", x.request(0, Integer.MIN_VALUE), UNKNOWN);
        Check.due("most key", x.request(0, Integer.MAX_VALUE), UNKNOWN);
        Check.due("key 255", x.request(0, 255), 0);
        Check.due("heat of 15", x.shard(15, 1), 20);
    }

    private static void hopsAndCries() {
        ShardTrails x = new ShardTrails();
        x.addPasture(0, 16, false);
        x.addPasture(0, 16, false);
        x.addReader(1);
        Check.due("a cry", x.request(0, 0), 3);
        Check.due("at once", x.request(0, 1), 0);
        x.move(0, 2);
        Check.due("a track", x.request(0, 1), 1);
        Check.due("another cry", x.request(0, 100), 3);
        int[] due = {1, 4, 7, 2, 3};
        for (int what = 0; what < due.length; what++) {
            Check.due("reader(0, " + what + ")", x.reader(0, what), due[what]);
        }
        x.addReader(2);
        x.request(1, 200);
        Check.due("requests", x.count(11), 5);
        Check.due("cries", x.count(12), 3);
    }

    private static void innsSentTo() {
        ShardTrails x = new ShardTrails();
        x.addPasture(0, 16, true);
        x.addPasture(0, 16, true);
        x.addPasture(0, 16, false);
        x.addReader(3);
        x.move(0, 2);
        Check.due("sent to 1 and 2", x.request(0, 0), 2);
        Check.due("sent to 1 and 2, and a cry", x.request(0, 16), 6);
        x.post();
        x.undo();
        x.addReader(3);
        Check.due("sent to 1 and 2", x.request(1, 0), 2);
        x.post();
        x.addReader(3);
        Check.due("sent to 1, which is asked", x.request(2, 0), 2);
        int[] due = {0, 4, 3, 0};
        for (int p = 0; p < due.length; p++) {
            Check.due("sent to " + p, x.pasture(p, 8), due[p]);
        }
        x.setInn(1, false);
        Check.due("so far", x.pasture(1, 8), 4);
        x.undo();
        x.undo();
        Check.due("before the last", x.pasture(1, 8), 3);
    }

    private static void innInTheFirstPasture() {
        ShardTrails x = new ShardTrails();
        x.addPasture(0, 16, false);
        x.setInn(0, true);
        x.addReader(1);
        Check.due("sent to 0", x.request(0, 0), 1);
        Check.due("told", x.pasture(0, 8), 1);
    }

    private static void heat() {
        ShardTrails x = new ShardTrails();
        x.addReader(0);
        x.set(5, 0);
        x.request(0, 0);
        Check.due("without warmth", x.shard(0, 1), 0);
        x.set(5, 99);
        for (int i = 1; i <= 101; i++) {
            x.request(0, 0);
            Check.due("heat after " + i, x.shard(0, 1), 99 * i);
        }
        x.request(0, 0);
        Check.due("never more", x.shard(0, 1), 9999);
        x.set(5, 100);
        x.request(0, 0);
        Check.due("never more", x.shard(0, 1), 9999);
        x.pass(1);
        Check.due("it cools", x.shard(0, 1), 7499);
    }

    private static void write() {
        Check.promise(15, "write");
        ShardTrails x = new ShardTrails();
        x.addPasture(0, 16, false);
        x.addReader(0);
        x.move(15, 1);
        Check.due("by a track", x.write(0, 255, 9999), 1);
        Check.due("the value", x.value(255), 9999);
        Check.due("of another key", x.value(254), 0);
        Check.due("heat", x.shard(15, 1), 20);
        Check.due("it remembers", x.remembered(0, 15), 1);
        Check.due("requests", x.reader(0, 1), 1);
        Check.due("hops", x.reader(0, 2), 1);
        Check.due("states", x.count(13), 4);
        Check.due("at once", x.write(0, 255, 0), 0);
        Check.due("the value", x.value(255), 0);
        Check.due("so already, but an act", x.write(0, 255, 0), 0);
        Check.due("requests", x.reader(0, 1), 3);
        x.move(15, 0);
        Check.due("a value goes with its shard", x.write(0, 240, 5), 1);
        Check.due("the value", x.value(240), 5);
        x.undo();
        Check.due("the value", x.value(240), 0);
        Check.due("heat", x.shard(15, 1), 60);
        x.write(0, 0, 1);
        Check.due("the lowest key", x.value(0), 1);
    }

    private static void writeWrong() {
        ShardTrails x = new ShardTrails();
        Check.due("no reader", x.write(0, 0, 1), UNKNOWN);
        x.addReader(0);
        Check.due("reader -1", x.write(-1, 0, 1), UNKNOWN);
        Check.due("reader 1", x.write(1, 0, -1), UNKNOWN);
        Check.due("key -1", x.write(0, -1, 1), UNKNOWN);
        Check.due("key 256", x.write(0, 256, 10000), UNKNOWN);
        Check.due("value -1", x.write(0, 0, -1), BAD_VALUE);
        Check.due("value 10000", x.write(0, 0, 10000), BAD_VALUE);
    }
}
