/** Promise 1: what a new object is like. */
final class NewObjectTests {
    private NewObjectTests() {
    }

    static void run() {
        Check.promise(1, "a new object");
        counts();
        pastureAndShards();
        settings();
        nothingToTakeBack();
        objectsOfTheirOwn();
    }

    private static void counts() {
        ShardTrails x = new ShardTrails();
        int[] due = {0, 0, 60, 1, 0, 0, 0, 0, 0, 0, 0, 0, 0, 0, 0};
        for (int what = 0; what < due.length; what++) {
            Check.due("count(" + what + ")", x.count(what), due[what]);
        }
    }

    private static void pastureAndShards() {
        ShardTrails x = new ShardTrails();
        int[] pasture = {0, 16, 0, 16, 0, 60, 0, 0, 0};
        for (int what = 0; what < pasture.length; what++) {
            Check.due("pasture(0, " + what + ")", x.pasture(0, what), pasture[what]);
        }
        for (int s = 0; s < 16; s++) {
            int[] shard = {0, 0, 0, 0, s, ShardTrails.NONE, 0};
            for (int what = 0; what < shard.length; what++) {
                Check.due("shard(" + s + ", " + what + ")", x.shard(s, what), shard[what]);
            }
            for (int what = 0; what < 3; what++) {
                Check.due("track(0, " + s + ", " + what + ")", x.track(0, s, what), ShardTrails.NONE);
            }
        }
        for (int key = 0; key < 256; key++) {
            Check.due("value(" + key + ")", x.value(key), 0);
        }
    }

    private static void settings() {
        ShardTrails x = new ShardTrails();
        int[] numbers = {5, 10, 10, 4, 3, 20};
        for (int what = 0; what < numbers.length; what++) {
            Check.due("set(" + what + ")", x.set(what, numbers[what]), ShardTrails.NONE);
        }
        int[] latitudes = {60, 40, 20, 40};
        for (int season = 0; season < latitudes.length; season++) {
            Check.due("setSeason(" + season + ")", x.setSeason(season, latitudes[season]), ShardTrails.NONE);
        }
    }

    private static void nothingToTakeBack() {
        ShardTrails x = new ShardTrails();
        Check.due("undo()", x.undo(), ShardTrails.NONE);
        Check.due("restore()", x.restore(), ShardTrails.NONE);
        Check.due("driveWolf()", x.driveWolf(), ShardTrails.NONE);
        Check.due("post()", x.post(), ShardTrails.NONE);
        Check.due("clearText()", x.clearText(), 0);
        Check.due("readRequests()", x.readRequests(), -100);
        Check.due("pasture(1, 0)", x.pasture(1, 0), ShardTrails.UNKNOWN);
        Check.due("reader(0, 0)", x.reader(0, 0), ShardTrails.UNKNOWN);
        Check.due("cut(0)", x.cut(0), ShardTrails.UNKNOWN);
        Check.due("pass(60) with one pasture", x.pass(60), 0);
    }

    private static void objectsOfTheirOwn() {
        String before = Told.everything(x -> { });
        Check.same("one object beside another", Told.everything(x -> useAnother()), before);
        Check.same("a later object", Told.everything(x -> { }), before);
    }

    private static void useAnother() {
        ShardTrails y = new ShardTrails();
        y.addPasture(60, 16, true);
        y.addReader(0);
        y.set(0, 1);
        y.write(0, 0, 7);
        y.type('0');
        y.keep();
        y.pass(3);
    }
}
