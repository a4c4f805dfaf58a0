/** Promises 27 to 29: what readers remember, how they would reach a key, and through which pastures. */
final class ReachTests {
    private static final int UNKNOWN = ShardTrails.UNKNOWN;
    private static final int BAD_VALUE = ShardTrails.BAD_VALUE;
    private static final int NONE = ShardTrails.NONE;

    /** The shard that is looked for, and one of its keys. */
    private static final int SHARD = 5;
    private static final int KEY = 5 * 16 + 7;

    private ReachTests() {
    }

    static void run() {
        remembered();
        Check.promise(28, "reach");
        atOnce();
        tracks();
        cry();
        innAsked();
        trackBeforeInn();
        sentAndAsked();
        sentBackToWhereItBegan();
        askedOnce();
        nearestInn();
        nearestFromWhereItIs();
        innFarAway();
        eightPastures();
        longWay();
        wrong();
        changesNothing();
    }

    /** Pastures 1 to inns.length; pasture 0 has no inn. */
    private static ShardTrails land(int[] latitudes, boolean[] inns) {
        ShardTrails x = new ShardTrails();
        for (int i = 0; i < latitudes.length; i++) {
            x.addPasture(latitudes[i], 16, inns[i]);
        }
        return x;
    }

    private static ShardTrails flat(boolean... inns) {
        return land(new int[inns.length], inns);
    }

    private static void cutIn(ShardTrails x, int pasture) {
        int wolf = x.addWolf(pasture, 1);
        Check.holds("a track is cut", x.cut(wolf) > 0);
    }

    /** What reach tells: hops, tracks, inns asked, inns sent to, cry. */
    private static void reach(ShardTrails x, int reader, int... due) {
        for (int what = 0; what < due.length; what++) {
            Check.due("reach(" + reader + ", key, " + what + ")", x.reach(reader, KEY, what), due[what]);
        }
    }

    private static void way(ShardTrails x, int reader, int... due) {
        for (int place = 0; place < due.length; place++) {
            Check.due("way(" + reader + ", key, " + place + ")", x.way(reader, KEY, place), due[place]);
        }
        Check.due("the way ends", x.way(reader, KEY, due.length), NONE);
        Check.due("far behind its end", x.way(reader, KEY, due.length + 200), NONE);
    }

    private static void remembered() {
        Check.promise(27, "remembered");
        ShardTrails x = flat(false, false);
        x.addReader(0);
        x.addReader(2);
        x.move(SHARD, 1);
        x.request(0, KEY);
        Check.due("found in 1", x.remembered(0, SHARD), 1);
        Check.due("another shard", x.remembered(0, 4), 0);
        Check.due("another reader", x.remembered(1, SHARD), 2);
        x.move(SHARD, 0);
        Check.due("as it was found last", x.remembered(0, SHARD), 1);
        Check.due("reader -1", x.remembered(-1, 0), UNKNOWN);
        Check.due("reader 2", x.remembered(2, 0), UNKNOWN);
        Check.due("shard -1", x.remembered(0, -1), UNKNOWN);
        Check.due("shard 16", x.remembered(0, 16), UNKNOWN);
    }

    private static void atOnce() {
        ShardTrails x = flat(true, true);
        x.addReader(0);
        x.addReader(1);
        x.move(SHARD, 1);
        reach(x, 1, 0, 0, 0, 0, 0);
        way(x, 1, 1);
        reach(x, 0, 1, 1, 0, 0, 0);
        Check.due("another key of the shard", x.reach(0, 80, 0), 1);
        Check.due("another key of the shard", x.reach(0, 95, 0), 1);
        Check.due("a key of the shard below", x.reach(0, 79, 0), 0);
        Check.due("a key of the shard above", x.reach(0, 96, 0), 0);
    }

    private static void tracks() {
        ShardTrails x = flat(false, false, false);
        x.addReader(0);
        x.addReader(1);
        x.move(SHARD, 1);
        x.move(SHARD, 3);
        x.move(SHARD, 2);
        reach(x, 0, 3, 3, 0, 0, 0);
        way(x, 0, 0, 1, 3, 2);
        reach(x, 1, 2, 2, 0, 0, 0);
        way(x, 1, 1, 3, 2);
    }

    private static void cry() {
        ShardTrails x = flat(false, false);
        x.addReader(0);
        x.move(SHARD, 1);
        x.move(SHARD, 2);
        cutIn(x, 1);
        reach(x, 0, 1 + 3, 1, 0, 0, 1);
        way(x, 0, 0, 1, 2);
        cutIn(x, 0);
        reach(x, 0, 3, 0, 0, 0, 1);
        way(x, 0, 0, 2);
        x.addPasture(0, 1, false);
        reach(x, 0, 4, 0, 0, 0, 1);
    }

    private static void innAsked() {
        ShardTrails x = flat(false, true, false);
        x.addReader(2);
        x.move(SHARD, 1);
        x.post();
        reach(x, 0, 1, 0, 1, 0, 0);
        way(x, 0, 2, 1);
        x.move(SHARD, 3);
        reach(x, 0, 2, 1, 1, 0, 0);
        way(x, 0, 2, 1, 3);
        cutIn(x, 1);
        reach(x, 0, 1 + 4, 0, 1, 0, 1);
        way(x, 0, 2, 1, 3);
    }

    private static void trackBeforeInn() {
        ShardTrails x = flat(false, false);
        x.setInn(0, true);
        x.addReader(0);
        x.move(SHARD, 1);
        x.move(SHARD, 2);
        x.post();
        Check.due("posted", x.track(0, SHARD, 2), 2);
        reach(x, 0, 2, 2, 0, 0, 0);
        way(x, 0, 0, 1, 2);
    }

    private static void sentAndAsked() {
        ShardTrails x = flat(true, false);
        x.addReader(0);
        x.move(SHARD, 2);
        cutIn(x, 0);
        reach(x, 0, 1 + 3, 0, 0, 1, 1);
        way(x, 0, 0, 1, 2);
        x.post();
        reach(x, 0, 2, 0, 1, 1, 0);
        way(x, 0, 0, 1, 2);
        x.move(SHARD, 1);
        reach(x, 0, 1, 0, 0, 1, 0);
        way(x, 0, 0, 1);
    }

    private static void sentBackToWhereItBegan() {
        ShardTrails x = flat(false, true, true);
        x.addReader(2);
        x.move(SHARD, 1);
        reach(x, 0, 2 + 4, 0, 0, 2, 1);
        way(x, 0, 2, 3, 2, 1);
    }

    private static void askedOnce() {
        ShardTrails x = flat(false, true, true, false);
        x.addReader(2);
        x.move(SHARD, 1);
        x.post();
        x.move(SHARD, 4);
        cutIn(x, 1);
        reach(x, 0, 3 + 5, 0, 2, 1, 1);
        way(x, 0, 2, 1, 3, 1, 4);
    }

    private static void nearestInn() {
        ShardTrails x = land(new int[] {40, 20, 0, 90}, new boolean[] {true, true, true, false});
        x.addReader(0);
        x.addPasture(30, 16, false);
        x.addReader(5);
        x.move(SHARD, 4);
        cutIn(x, 0);
        reach(x, 0, 3 + 6, 0, 0, 3, 1);
        way(x, 0, 0, 3, 2, 1, 4);
        reach(x, 1, 3 + 6, 0, 0, 3, 1);
        way(x, 1, 5, 1, 2, 3, 4);
    }

    private static void nearestFromWhereItIs() {
        ShardTrails x = land(new int[] {45, 56, 43, 90, 50}, new boolean[] {true, true, true, false, false});
        x.addReader(5);
        x.move(SHARD, 4);
        way(x, 0, 5, 1, 3, 2, 4);
        x.setInn(3, false);
        way(x, 0, 5, 1, 2, 4);
        x.setInn(1, false);
        way(x, 0, 5, 2, 4);
        x.setInn(2, false);
        way(x, 0, 5, 4);
        reach(x, 0, 6, 0, 0, 0, 1);
    }

    private static void innFarAway() {
        ShardTrails x = land(new int[] {90, 0}, new boolean[] {true, false});
        x.addReader(2);
        x.move(SHARD, 1);
        reach(x, 0, 1, 0, 0, 1, 0);
        way(x, 0, 2, 1);
    }

    /** As many pastures as there can be, with all that happens in them. */
    private static void eightPastures() {
        ShardTrails x = flat(false, false, false, false, false, false, true);
        x.set(1, 1);
        x.addReader(3);
        x.addWolf(7, 7);
        x.move(SHARD, 7);
        x.move(SHARD, 6);
        Check.due("inns", x.post(), 1);
        reach(x, 0, 2, 1, 0, 1, 0);
        way(x, 0, 3, 7, 6);
        Check.due("request", x.request(0, KEY), 2);
        Check.due("sent to 7", x.pasture(7, 8), 1);
        x.pass(2);
        Check.due("kept by the inn", x.track(7, SHARD, 0), 6);
        Check.due("grown over elsewhere", x.count(10), 1);
        Check.due("the wolf", x.pasture(5, 7), 1);
        Check.due("shards", x.pasture(6, 3), 1);
        Check.due("tracks", x.count(7), 1);
        Check.due("posted on day 2", x.pass(1), 0);
        Check.due("posted", x.track(7, SHARD, 2), 6);
        x.setInn(7, false);
        x.pass(1);
        Check.due("grown over in the last", x.count(10), 2);
        x.move(SHARD, 0);
        x.pass(2);
        Check.due("a cry costs eight", x.reach(0, 0, 0), 8);
    }

    private static void longWay() {
        ShardTrails x = flat(true, true, true, true, true, true, true);
        x.setInn(0, true);
        x.addReader(1);
        x.move(SHARD, 7);
        reach(x, 0, 2, 1, 0, 1, 0);
        way(x, 0, 1, 0, 7);
        x.setInn(0, false);
        cutIn(x, 0);
        x.setInn(7, false);
        reach(x, 0, 6 + 8, 0, 0, 6, 1);
        way(x, 0, 1, 2, 1, 3, 4, 5, 6, 7);
    }

    private static void wrong() {
        ShardTrails x = flat(false);
        Check.due("no reader", x.reach(0, 0, 0), UNKNOWN);
        Check.due("no reader", x.way(0, 0, 0), UNKNOWN);
        x.addReader(1);
        Check.due("reader -1", x.reach(-1, 0, 0), UNKNOWN);
        Check.due("reader 1", x.reach(1, 0, 0), UNKNOWN);
        Check.due("key -1", x.reach(0, -1, 0), UNKNOWN);
        Check.due("key 256", x.reach(0, 256, 0), UNKNOWN);
        Check.due("key 256, what 5", x.reach(0, 256, 5), UNKNOWN);
        Check.due("what -1", x.reach(0, 0, -1), BAD_VALUE);
        Check.due("what 5", x.reach(0, 0, 5), BAD_VALUE);
        Check.due("key 255", x.reach(0, 255, 0), 2);
        Check.promise(29, "way");
        Check.due("reader -1", x.way(-1, 0, 0), UNKNOWN);
        Check.due("reader 1", x.way(1, 0, 0), UNKNOWN);
        Check.due("key -1", x.way(0, -1, 0), UNKNOWN);
        Check.due("key 256", x.way(0, 256, 0), UNKNOWN);
        Check.due("key 256, place -1", x.way(0, 256, -1), UNKNOWN);
        Check.due("place -1", x.way(0, 0, -1), BAD_VALUE);
        Check.due("least place", x.way(0, 0, Integer.MIN_VALUE), BAD_VALUE);
        Check.due("most place", x.way(0, 0, Integer.MAX_VALUE), NONE);
        Check.due("where it begins", x.way(0, 255, 0), 1);
        Check.due("where it cries for it", x.way(0, 255, 1), 0);
        Check.due("no more", x.way(0, 255, 2), NONE);
    }

    private static void changesNothing() {
        Unchanged asked = new Unchanged(x -> {
            x.addPasture(0, 16, true);
            x.addPasture(0, 16, true);
            x.addPasture(0, 16, false);
            x.addReader(2);
            x.move(SHARD, 3);
        });
        for (int what = 0; what < 5; what++) {
            int number = what;
            asked.due("reach(0, key, " + what + ")", new int[] {2 + 4, 0, 0, 2, 1}[what],
                x -> x.reach(0, KEY, number));
        }
        for (int place = 0; place < 5; place++) {
            int number = place;
            asked.due("way(0, key, " + place + ")", new int[] {2, 1, 2, 3, NONE}[place],
                x -> x.way(0, KEY, number));
        }
    }
}
