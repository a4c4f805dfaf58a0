/** Promises 22 to 26 and 31: what is told of pastures, tracks, shards, keys, readers, and of all. */
final class TellTests {
    private static final int UNKNOWN = ShardTrails.UNKNOWN;
    private static final int BAD_VALUE = ShardTrails.BAD_VALUE;
    private static final int NONE = ShardTrails.NONE;

    private TellTests() {
    }

    static void run() {
        pasture();
        track();
        shard();
        heatOfAPasture();
        placeByHeat();
        lookedAt();
        lookedAtFarAway();
        value();
        reader();
        count();
    }

    /** Day 6, in season 1 of latitude 40; each thing that is told is there. */
    private static ShardTrails grown() {
        ShardTrails x = new ShardTrails();
        x.set(3, 0);
        x.addPasture(75, 4, true);
        x.addPasture(40, 9, false);
        x.addWolf(0, 6);
        x.addWolf(1, 3);
        x.addReader(0);
        x.addReader(2);
        x.request(1, 250);
        x.pass(6);
        x.move(1, 1);
        x.move(2, 1);
        x.move(1, 2);
        x.post();
        x.move(3, 2);
        x.write(0, 16, 500);
        x.write(0, 31, 70);
        x.write(1, 32, 8);
        x.request(1, 230);
        return x;
    }

    private static void pasture() {
        Check.promise(22, "pasture");
        ShardTrails x = grown();
        int[] zero = {0, 16, 0, 13, 3, 40, 23, 1, 0};
        int[] one = {75, 4, 1, 1, 1, 35, 20, 1, 3};
        int[] two = {40, 9, 0, 2, 0, 0, 40, 0, 0};
        for (int what = 0; what < zero.length; what++) {
            Check.due("pasture(0, " + what + ")", x.pasture(0, what), zero[what]);
            Check.due("pasture(1, " + what + ")", x.pasture(1, what), one[what]);
            Check.due("pasture(2, " + what + ")", x.pasture(2, what), two[what]);
        }
        x.setSeason(1, 80);
        Check.due("distance to the present season", x.pasture(1, 5), 5);
        Check.due("pasture -1", x.pasture(-1, 0), UNKNOWN);
        Check.due("pasture 3", x.pasture(3, 9), UNKNOWN);
        Check.due("pasture 8", x.pasture(8, 0), UNKNOWN);
        Check.due("what -1", x.pasture(0, -1), BAD_VALUE);
        Check.due("what 9", x.pasture(0, 9), BAD_VALUE);
    }

    private static void track() {
        Check.promise(23, "track");
        ShardTrails x = grown();
        int[][] due = {
            {0, 1, 1, 6, NONE}, {0, 2, 1, 6, NONE}, {0, 3, 2, 6, NONE}, {0, 0, NONE, NONE, NONE},
            {1, 1, 2, 6, 2}, {1, 2, NONE, NONE, 1}, {1, 3, NONE, NONE, 0}, {1, 15, NONE, NONE, 0},
            {2, 1, NONE, NONE, NONE}, {2, 3, NONE, NONE, NONE},
        };
        for (int[] row : due) {
            for (int what = 0; what < 3; what++) {
                Check.due("track(" + row[0] + ", " + row[1] + ", " + what + ")",
                    x.track(row[0], row[1], what), row[2 + what]);
            }
        }
        Check.due("pasture -1", x.track(-1, 0, 0), UNKNOWN);
        Check.due("pasture 3", x.track(3, 0, 0), UNKNOWN);
        Check.due("shard -1", x.track(0, -1, 0), UNKNOWN);
        Check.due("shard 16", x.track(0, 16, 3), UNKNOWN);
        Check.due("what -1", x.track(0, 0, -1), BAD_VALUE);
        Check.due("what 3", x.track(0, 1, 3), BAD_VALUE);
    }

    private static void shard() {
        Check.promise(24, "shard");
        ShardTrails x = grown();
        int[] one = {2, 40, 2, 2, 0, 1, 570};
        int[] two = {1, 20, 1, 1, 1, 2, 8};
        int[] three = {2, 0, 1, 1, 5, 1, 0};
        int[] last = {0, 3, 0, 0, 3, 2, 0};
        for (int what = 0; what < one.length; what++) {
            Check.due("shard(1, " + what + ")", x.shard(1, what), one[what]);
            Check.due("shard(2, " + what + ")", x.shard(2, what), two[what]);
            Check.due("shard(3, " + what + ")", x.shard(3, what), three[what]);
            Check.due("shard(15, " + what + ")", x.shard(15, what), last[what]);
        }
        Check.due("shard -1", x.shard(-1, 0), UNKNOWN);
        Check.due("shard 16", x.shard(16, 7), UNKNOWN);
        Check.due("what -1", x.shard(0, -1), BAD_VALUE);
        Check.due("what 7", x.shard(0, 7), BAD_VALUE);
    }

    private static void heatOfAPasture() {
        ShardTrails x = new ShardTrails();
        x.addPasture(0, 16, false);
        x.addReader(0);
        x.request(0, 0);
        x.request(0, 255);
        x.request(0, 16);
        Check.due("three warm shards", x.pasture(0, 6), 60);
        x.move(0, 1);
        x.move(15, 1);
        Check.due("the one that is left", x.pasture(0, 6), 20);
        Check.due("the two that went", x.pasture(1, 6), 40);
    }

    private static void placeByHeat() {
        ShardTrails x = new ShardTrails();
        x.addReader(0);
        int[] heats = {0, 20, 60, 0, 40, 20, 0, 0, 60, 0, 0, 0, 0, 0, 0, 20};
        int[] places = {6, 3, 0, 7, 2, 4, 8, 9, 1, 10, 11, 12, 13, 14, 15, 5};
        for (int s = 0; s < 16; s++) {
            for (int heat = 0; heat < heats[s]; heat += 20) {
                x.request(0, 16 * s);
            }
        }
        for (int s = 0; s < 16; s++) {
            Check.due("shard(" + s + ", 1)", x.shard(s, 1), heats[s]);
            Check.due("shard(" + s + ", 4)", x.shard(s, 4), places[s]);
        }
    }

    private static void lookedAt() {
        ShardTrails x = new ShardTrails();
        x.addPasture(50, 1, false);
        x.addPasture(70, 2, false);
        x.addPasture(65, 1, false);
        Check.due("the best", x.shard(0, 5), 3);
        x.move(0, 3);
        Check.due("of two with room the lowest", x.shard(1, 5), 1);
        Check.due("for the one in the best", x.shard(0, 5), 1);
        x.move(1, 1);
        Check.due("the one with room", x.shard(2, 5), 2);
        Check.due("for the one in 1", x.shard(1, 5), 2);
        x.move(2, 2);
        x.move(3, 2);
        Check.due("none has room", x.shard(4, 5), NONE);
        Check.due("for one elsewhere the first", x.shard(3, 5), 0);
        x.set(2, 90);
        Check.due("whatever the margin is", x.shard(3, 5), 0);
        x.set(3, 0);
        Check.due("and the drovers are", x.shard(3, 5), 0);
        x.setRoom(0, 12);
        Check.due("unless that is full", x.shard(3, 5), NONE);
    }

    private static void lookedAtFarAway() {
        ShardTrails x = new ShardTrails();
        x.addPasture(0, 1, false);
        x.addPasture(0, 1, false);
        x.setSeason(0, 90);
        Check.due("distance", x.pasture(1, 5), 90);
        Check.due("at the greatest distance", x.shard(0, 5), 1);
        x.move(3, 1);
        Check.due("at the greatest distance", x.shard(0, 5), 2);
    }

    private static void value() {
        Check.promise(25, "value");
        ShardTrails x = grown();
        Check.due("key 16", x.value(16), 500);
        Check.due("key 31", x.value(31), 70);
        Check.due("key 32", x.value(32), 8);
        Check.due("key 17", x.value(17), 0);
        Check.due("key 0", x.value(0), 0);
        Check.due("key 255", x.value(255), 0);
        Check.due("key -1", x.value(-1), UNKNOWN);
        Check.due("key 256", x.value(256), UNKNOWN);
        Check.due("least key", x.value(Integer.MIN_VALUE), UNKNOWN);
        Check.due("most key", x.value(Integer.MAX_VALUE), UNKNOWN);
    }

    private static void reader() {
        Check.promise(26, "reader");
        ShardTrails x = grown();
        int[] zero = {0, 2, 2, 0, 2};
        int[] one = {2, 3, 7, 1, 4};
        for (int what = 0; what < zero.length; what++) {
            Check.due("reader(0, " + what + ")", x.reader(0, what), zero[what]);
            Check.due("reader(1, " + what + ")", x.reader(1, what), one[what]);
        }
        x.write(1, 32, 9);
        Check.due("most hops stay", x.reader(1, 4), 4);
        Check.due("reader -1", x.reader(-1, 0), UNKNOWN);
        Check.due("reader 2", x.reader(2, 5), UNKNOWN);
        Check.due("reader 6", x.reader(6, 0), UNKNOWN);
        Check.due("what -1", x.reader(0, -1), BAD_VALUE);
        Check.due("what 5", x.reader(0, 5), BAD_VALUE);
    }

    private static void count() {
        Check.promise(31, "count");
        ShardTrails x = grown();
        x.type('a');
        int[] due = {6, 1, 40, 3, 1, 2, 2, 4, 4, 0, 0, 5, 1, 4, 1};
        for (int what = 0; what < due.length; what++) {
            Check.due("count(" + what + ")", x.count(what), due[what]);
        }
        Check.due("what -1", x.count(-1), BAD_VALUE);
        Check.due("what 15", x.count(15), BAD_VALUE);
        Check.due("least what", x.count(Integer.MIN_VALUE), BAD_VALUE);
        Check.due("most what", x.count(Integer.MAX_VALUE), BAD_VALUE);
        x.cut(0);
        Check.due("cut", x.count(9), 3);
        x.setInn(1, false);
        x.driveWolf();
        x.set(1, 1);
        x.pass(2);
        Check.due("cut", x.count(9), 3);
        Check.due("grown over", x.count(10), 1);
        Check.due("tracks", x.count(7), 0);
        Check.due("inns", x.count(4), 0);
        Check.due("moves so far", x.count(8), 4);
        Check.due("wolves", x.count(5), 1);
    }
}
