/**
 * "A call that returns an error or NONE changes nothing", and "where several errors can apply, the
 * order of the Returns line is the order of the checks": for each promise, each of its errors and
 * its NONE, at the first value outside each bound, and at the farthest one.
 */
final class RefusalTests {
    private static final int UNKNOWN = ShardTrails.UNKNOWN;
    private static final int BAD_VALUE = ShardTrails.BAD_VALUE;
    private static final int FULL = ShardTrails.FULL;
    private static final int NOT_POSSIBLE = ShardTrails.NOT_POSSIBLE;
    private static final int NONE = ShardTrails.NONE;
    private static final int LEAST = Integer.MIN_VALUE;
    private static final int MOST = Integer.MAX_VALUE;

    /** No room for more in it. */
    private final Unchanged full = new Unchanged(Worlds::full);
    /** Nothing but the first pasture in it. */
    private final Unchanged bare = new Unchanged(Worlds::bare);
    /** Room for more in it. */
    private final Unchanged busy = new Unchanged(Worlds::busy);

    private RefusalTests() {
    }

    static void run() {
        RefusalTests tests = new RefusalTests();
        tests.pastures();
        tests.wolvesAndReaders();
        tests.settings();
        tests.days();
        tests.shardsInnsAndWolves();
        tests.requests();
        tests.texts();
        tests.history();
        tests.tellOfPastures();
        tests.tellOfShards();
        tests.tellOfReaders();
        tests.tellOfWays();
        tests.tellOfAll();
        tests.whatTellsChangesNothing();
    }

    private void pastures() {
        Check.promise(2, "addPasture");
        full.due("a ninth", FULL, x -> x.addPasture(45, 8, true));
        full.due("a ninth, the least", FULL, x -> x.addPasture(0, 1, false));
        full.due("a ninth, the greatest", FULL, x -> x.addPasture(90, 16, true));
        for (int wrong : new int[] {-1, 91, LEAST, MOST}) {
            full.due("latitude " + wrong + ", and no room", BAD_VALUE, x -> x.addPasture(wrong, 8, true));
            busy.due("latitude " + wrong, BAD_VALUE, x -> x.addPasture(wrong, 8, true));
        }
        for (int wrong : new int[] {0, 17, -1, LEAST, MOST}) {
            full.due("room " + wrong + ", and no room", BAD_VALUE, x -> x.addPasture(45, wrong, false));
            busy.due("room " + wrong, BAD_VALUE, x -> x.addPasture(45, wrong, false));
        }
        Check.promise(3, "setRoom");
        for (int wrong : new int[] {-1, 8, LEAST, MOST}) {
            full.due("pasture " + wrong, UNKNOWN, x -> x.setRoom(wrong, 5));
            full.due("pasture " + wrong + ", and room 0", UNKNOWN, x -> x.setRoom(wrong, 0));
            full.due("pasture " + wrong + ", and room 17", UNKNOWN, x -> x.setRoom(wrong, 17));
        }
        busy.due("pasture 4 of 4", UNKNOWN, x -> x.setRoom(4, 5));
        bare.due("pasture 1 of 1", UNKNOWN, x -> x.setRoom(1, 16));
        for (int wrong : new int[] {0, 17, -1, LEAST, MOST}) {
            full.due("room " + wrong + " for 2 shards", BAD_VALUE, x -> x.setRoom(1, wrong));
            full.due("room " + wrong + " for none", BAD_VALUE, x -> x.setRoom(7, wrong));
        }
        full.due("room 1 for 2 shards", NOT_POSSIBLE, x -> x.setRoom(1, 1));
        full.due("room 10 for 11 shards", NOT_POSSIBLE, x -> x.setRoom(0, 10));
        bare.due("room 15 for 16 shards", NOT_POSSIBLE, x -> x.setRoom(0, 15));
        full.due("2 for 2 already", NONE, x -> x.setRoom(1, 2));
        full.due("16 for none already", NONE, x -> x.setRoom(7, 16));
        bare.due("16 for 16 already", NONE, x -> x.setRoom(0, 16));
        Check.promise(4, "setInn");
        for (int wrong : new int[] {-1, 8, LEAST, MOST}) {
            full.due("open " + wrong, UNKNOWN, x -> x.setInn(wrong, true));
            full.due("close " + wrong, UNKNOWN, x -> x.setInn(wrong, false));
        }
        bare.due("open 1 of 1", UNKNOWN, x -> x.setInn(1, true));
        full.due("open already, and it has posted", NONE, x -> x.setInn(2, true));
        full.due("closed already", NONE, x -> x.setInn(7, false));
        bare.due("closed already", NONE, x -> x.setInn(0, false));
    }

    private void wolvesAndReaders() {
        Check.promise(5, "addWolf");
        full.due("a fourth", FULL, x -> x.addWolf(0, 1));
        full.due("a fourth in the last pasture", FULL, x -> x.addWolf(7, 7));
        for (int wrong : new int[] {-1, 8, LEAST, MOST}) {
            full.due("in " + wrong + ", and no room", UNKNOWN, x -> x.addWolf(wrong, 1));
            full.due("in " + wrong + ", stride 0, and no room", UNKNOWN, x -> x.addWolf(wrong, 0));
            busy.due("in " + wrong + ", stride 8", UNKNOWN, x -> x.addWolf(wrong, 8));
            busy.due("in " + wrong, UNKNOWN, x -> x.addWolf(wrong, 7));
        }
        for (int wrong : new int[] {0, 8, -1, LEAST, MOST}) {
            full.due("stride " + wrong + ", and no room", BAD_VALUE, x -> x.addWolf(0, wrong));
            busy.due("stride " + wrong, BAD_VALUE, x -> x.addWolf(0, wrong));
        }
        bare.due("in 1 of 1", UNKNOWN, x -> x.addWolf(1, 1));
        Check.promise(6, "driveWolf");
        bare.due("no wolf", NONE, ShardTrails::driveWolf);
        Check.promise(7, "addReader");
        full.due("a seventh", FULL, x -> x.addReader(0));
        full.due("a seventh in the last pasture", FULL, x -> x.addReader(7));
        for (int wrong : new int[] {-1, 8, LEAST, MOST}) {
            full.due("in " + wrong + ", and no room", UNKNOWN, x -> x.addReader(wrong));
            busy.due("in " + wrong, UNKNOWN, x -> x.addReader(wrong));
        }
        busy.due("in 4 of 4", UNKNOWN, x -> x.addReader(4));
        bare.due("in 1 of 1", UNKNOWN, x -> x.addReader(1));
    }

    private void settings() {
        Check.promise(8, "setSeason");
        for (int wrong : new int[] {-1, 4, LEAST, MOST}) {
            full.due("season " + wrong, BAD_VALUE, x -> x.setSeason(wrong, 40));
            full.due("season " + wrong + ", latitude -1", BAD_VALUE, x -> x.setSeason(wrong, -1));
        }
        for (int wrong : new int[] {-1, 91, LEAST, MOST}) {
            full.due("latitude " + wrong + " of the first", BAD_VALUE, x -> x.setSeason(0, wrong));
            full.due("latitude " + wrong + " of the last", BAD_VALUE, x -> x.setSeason(3, wrong));
        }
        int[] latitudes = {60, 40, 20, 40};
        for (int season = 0; season < latitudes.length; season++) {
            int number = season;
            full.due("season " + season + " so already", NONE, x -> x.setSeason(number, latitudes[number]));
        }
        Check.promise(9, "set");
        for (int wrong : new int[] {-1, 6, LEAST, MOST}) {
            full.due("what " + wrong, BAD_VALUE, x -> x.set(wrong, 5));
            full.due("what " + wrong + ", value -1", BAD_VALUE, x -> x.set(wrong, -1));
        }
        int[] least = {1, 1, 1, 0, 1, 0};
        int[] most = {30, 60, 90, 16, 30, 100};
        int[] present = {5, 10, 10, 0, 3, 20};
        for (int what = 0; what < present.length; what++) {
            int number = what;
            for (int wrong : new int[] {least[what] - 1, most[what] + 1, LEAST, MOST}) {
                full.due("set(" + what + ", " + wrong + ")", BAD_VALUE, x -> x.set(number, wrong));
            }
            full.due("set(" + what + ") so already", NONE, x -> x.set(number, present[number]));
        }
    }

    private void days() {
        Check.promise(10, "pass");
        for (int wrong : new int[] {0, 61, -1, LEAST, MOST}) {
            full.due("days " + wrong, BAD_VALUE, x -> x.pass(wrong));
            bare.due("days " + wrong, BAD_VALUE, x -> x.pass(wrong));
        }
        Unchanged near = new Unchanged(Worlds::day9960);
        near.due("to day 10000", NOT_POSSIBLE, x -> x.pass(40));
        near.due("to day 10020", NOT_POSSIBLE, x -> x.pass(60));
        near.due("61 days, to day 10021", BAD_VALUE, x -> x.pass(61));
        near.due("0 days", BAD_VALUE, x -> x.pass(0));
        Unchanged last = new Unchanged(Worlds::day9999);
        last.due("one day behind the last one", NOT_POSSIBLE, x -> x.pass(1));
        last.due("60 days behind the last one", NOT_POSSIBLE, x -> x.pass(60));
        last.due("61 days behind the last one", BAD_VALUE, x -> x.pass(61));
        last.due("the most days behind the last one", BAD_VALUE, x -> x.pass(MOST));
        last.due("0 days on the last one", BAD_VALUE, x -> x.pass(0));
    }

    private void shardsInnsAndWolves() {
        Check.promise(11, "move");
        for (int wrong : new int[] {-1, 16, LEAST, MOST}) {
            full.due("shard " + wrong, UNKNOWN, x -> x.move(wrong, 0));
            full.due("shard " + wrong + ", no room there", UNKNOWN, x -> x.move(wrong, 1));
        }
        for (int wrong : new int[] {-1, 8, LEAST, MOST}) {
            full.due("to " + wrong, UNKNOWN, x -> x.move(0, wrong));
        }
        full.due("no shard to no pasture", UNKNOWN, x -> x.move(16, 8));
        bare.due("to 1 of 1", UNKNOWN, x -> x.move(0, 1));
        full.due("2 of room 2", FULL, x -> x.move(3, 1));
        full.due("1 of room 1", FULL, x -> x.move(14, 6));
        full.due("from a full one to a full one", FULL, x -> x.move(15, 1));
        full.due("there, without room", NONE, x -> x.move(0, 1));
        full.due("there, with room", NONE, x -> x.move(3, 3));
        bare.due("the only one is full", NONE, x -> x.move(15, 0));
        Check.promise(12, "post");
        bare.due("no inn", NONE, ShardTrails::post);
        Check.promise(13, "cut");
        for (int wrong : new int[] {-1, 3, LEAST, MOST}) {
            full.due("wolf " + wrong, UNKNOWN, x -> x.cut(wrong));
        }
        bare.due("no wolf", UNKNOWN, x -> x.cut(0));
        busy.due("wolf 2 of 2", UNKNOWN, x -> x.cut(2));
        full.due("a track where an inn is", NONE, x -> x.cut(1));
        full.due("no track", NONE, x -> x.cut(2));
    }

    private void requests() {
        Check.promise(14, "request");
        for (int wrong : new int[] {-1, 6, LEAST, MOST}) {
            full.due("reader " + wrong, UNKNOWN, x -> x.request(wrong, 0));
        }
        for (int wrong : new int[] {-1, 256, LEAST, MOST}) {
            full.due("key " + wrong, UNKNOWN, x -> x.request(0, wrong));
        }
        full.due("neither", UNKNOWN, x -> x.request(6, 256));
        bare.due("no reader", UNKNOWN, x -> x.request(0, 0));
        busy.due("reader 1 of 1", UNKNOWN, x -> x.request(1, 0));
        Check.promise(15, "write");
        for (int wrong : new int[] {-1, 6, LEAST, MOST}) {
            full.due("reader " + wrong, UNKNOWN, x -> x.write(wrong, 0, 1));
            full.due("reader " + wrong + ", value -1", UNKNOWN, x -> x.write(wrong, 0, -1));
        }
        for (int wrong : new int[] {-1, 256, LEAST, MOST}) {
            full.due("key " + wrong, UNKNOWN, x -> x.write(0, wrong, 1));
            full.due("key " + wrong + ", value 10000", UNKNOWN, x -> x.write(0, wrong, 10000));
        }
        for (int wrong : new int[] {-1, 10000, LEAST, MOST}) {
            full.due("value " + wrong, BAD_VALUE, x -> x.write(0, 0, wrong));
            full.due("value " + wrong + " of the last key", BAD_VALUE, x -> x.write(5, 255, wrong));
        }
        bare.due("no reader", UNKNOWN, x -> x.write(0, 0, 0));
    }

    private void texts() {
        Check.promise(16, "type");
        full.due("a 61st character", FULL, x -> x.type('0'));
        full.due("a 61st that is no text of requests", FULL, x -> x.type((char) 0));
        full.due("a 61st, the last of all", FULL, x -> x.type((char) 65535));
        Check.promise(17, "clearText");
        bare.due("the empty text", 0, ShardTrails::clearText);
        Check.promise(18, "readRequests");
        bare.due("the empty text", -100, ShardTrails::readRequests);
        unread("6:0", -100);
        unread("1:0", UNKNOWN);
        unread("5:0", UNKNOWN);
        unread("0:256", UNKNOWN);
        unread("0:999=0", UNKNOWN);
        unread("0:0=1,1:0=1", UNKNOWN);
        unread("1:0=1,0:0=1", UNKNOWN);
        unread("0:0=1,0:256=1", UNKNOWN);
        unread("0:0=1,", -106);
        unread("0:0=1,0:1=1x", -111);
        unread("5:999,0:05", -109);
        unread("5:999=12345", -110);
        unread("x".repeat(60), -100);
    }

    /** A text behind a past with one reader. */
    private static void unread(String text, int due) {
        Unchanged read = new Unchanged(x -> {
            Worlds.busy(x);
            x.clearText();
            Worlds.type(x, text);
        });
        read.due("the text " + text, due, ShardTrails::readRequests);
    }

    private void history() {
        Check.promise(19, "undo");
        bare.due("the empty history", NONE, ShardTrails::undo);
        Unchanged undone = new Unchanged(x -> {
            x.addReader(0);
            x.request(0, 3);
            x.keep();
            x.undo();
            x.undo();
        });
        undone.due("a history that is empty again", NONE, ShardTrails::undo);
        Check.promise(21, "restore");
        bare.due("no snapshot", NONE, ShardTrails::restore);
        busy.due("no snapshot, but states", NONE, ShardTrails::restore);
    }

    private void tellOfPastures() {
        Check.promise(22, "pasture");
        for (int wrong : new int[] {-1, 8, LEAST, MOST}) {
            full.due("pasture " + wrong, UNKNOWN, x -> x.pasture(wrong, 0));
            full.due("pasture " + wrong + ", what 9", UNKNOWN, x -> x.pasture(wrong, 9));
        }
        for (int wrong : new int[] {-1, 9, LEAST, MOST}) {
            full.due("what " + wrong, BAD_VALUE, x -> x.pasture(0, wrong));
        }
        bare.due("pasture 1 of 1", UNKNOWN, x -> x.pasture(1, 0));
        Check.promise(23, "track");
        for (int wrong : new int[] {-1, 8, LEAST, MOST}) {
            full.due("pasture " + wrong, UNKNOWN, x -> x.track(wrong, 0, 0));
            full.due("pasture " + wrong + ", what 3", UNKNOWN, x -> x.track(wrong, 0, 3));
        }
        for (int wrong : new int[] {-1, 16, LEAST, MOST}) {
            full.due("shard " + wrong, UNKNOWN, x -> x.track(0, wrong, 0));
            full.due("shard " + wrong + ", what -1", UNKNOWN, x -> x.track(0, wrong, -1));
        }
        for (int wrong : new int[] {-1, 3, LEAST, MOST}) {
            full.due("what " + wrong + " where a track is", BAD_VALUE, x -> x.track(0, 0, wrong));
            full.due("what " + wrong + " where none is", BAD_VALUE, x -> x.track(7, 15, wrong));
        }
        for (int what = 0; what <= 2; what++) {
            int number = what;
            full.due("what " + what + " of nothing", NONE, x -> x.track(7, 0, number));
        }
    }

    private void tellOfShards() {
        Check.promise(24, "shard");
        for (int wrong : new int[] {-1, 16, LEAST, MOST}) {
            full.due("shard " + wrong, UNKNOWN, x -> x.shard(wrong, 0));
            full.due("shard " + wrong + ", what 7", UNKNOWN, x -> x.shard(wrong, 7));
        }
        for (int wrong : new int[] {-1, 7, LEAST, MOST}) {
            full.due("what " + wrong, BAD_VALUE, x -> x.shard(0, wrong));
        }
        bare.due("no other pasture", NONE, x -> x.shard(0, 5));
        Check.promise(25, "value");
        for (int wrong : new int[] {-1, 256, LEAST, MOST}) {
            full.due("key " + wrong, UNKNOWN, x -> x.value(wrong));
        }
        Check.promise(30, "movesIn");
        for (int wrong : new int[] {-1, 16, LEAST, MOST}) {
            full.due("shard " + wrong, UNKNOWN, x -> x.movesIn(wrong));
        }
        full.due("without drovers", NONE, x -> x.movesIn(0));
        bare.due("with one pasture", NONE, x -> x.movesIn(15));
    }

    private void tellOfReaders() {
        Check.promise(26, "reader");
        for (int wrong : new int[] {-1, 6, LEAST, MOST}) {
            full.due("reader " + wrong, UNKNOWN, x -> x.reader(wrong, 0));
            full.due("reader " + wrong + ", what 5", UNKNOWN, x -> x.reader(wrong, 5));
        }
        for (int wrong : new int[] {-1, 5, LEAST, MOST}) {
            full.due("what " + wrong, BAD_VALUE, x -> x.reader(0, wrong));
        }
        bare.due("no reader", UNKNOWN, x -> x.reader(0, 0));
        Check.promise(27, "remembered");
        for (int wrong : new int[] {-1, 6, LEAST, MOST}) {
            full.due("reader " + wrong, UNKNOWN, x -> x.remembered(wrong, 0));
        }
        for (int wrong : new int[] {-1, 16, LEAST, MOST}) {
            full.due("shard " + wrong, UNKNOWN, x -> x.remembered(0, wrong));
        }
        bare.due("no reader", UNKNOWN, x -> x.remembered(0, 0));
    }

    private void tellOfWays() {
        Check.promise(28, "reach");
        for (int wrong : new int[] {-1, 6, LEAST, MOST}) {
            full.due("reader " + wrong, UNKNOWN, x -> x.reach(wrong, 0, 0));
            full.due("reader " + wrong + ", what 5", UNKNOWN, x -> x.reach(wrong, 0, 5));
        }
        for (int wrong : new int[] {-1, 256, LEAST, MOST}) {
            full.due("key " + wrong, UNKNOWN, x -> x.reach(0, wrong, 0));
            full.due("key " + wrong + ", what -1", UNKNOWN, x -> x.reach(0, wrong, -1));
        }
        for (int wrong : new int[] {-1, 5, LEAST, MOST}) {
            full.due("what " + wrong, BAD_VALUE, x -> x.reach(0, 0, wrong));
        }
        Check.promise(29, "way");
        for (int wrong : new int[] {-1, 6, LEAST, MOST}) {
            full.due("reader " + wrong, UNKNOWN, x -> x.way(wrong, 0, 0));
            full.due("reader " + wrong + ", place -1", UNKNOWN, x -> x.way(wrong, 0, -1));
            full.due("reader " + wrong + ", far behind", UNKNOWN, x -> x.way(wrong, 0, MOST));
        }
        for (int wrong : new int[] {-1, 256, LEAST, MOST}) {
            full.due("key " + wrong, UNKNOWN, x -> x.way(0, wrong, 0));
            full.due("key " + wrong + ", place -1", UNKNOWN, x -> x.way(0, wrong, -1));
        }
        full.due("place -1", BAD_VALUE, x -> x.way(0, 0, -1));
        full.due("the least place", BAD_VALUE, x -> x.way(0, 0, LEAST));
        full.due("the first place behind the end", NONE, x -> x.way(1, 0, 1));
        full.due("the last place of all", NONE, x -> x.way(1, 0, MOST));
    }

    private void tellOfAll() {
        Check.promise(31, "count");
        for (int wrong : new int[] {-1, 15, LEAST, MOST}) {
            full.due("what " + wrong, BAD_VALUE, x -> x.count(wrong));
        }
    }

    /** No promise from 22 to 31 is an act, whatever is answered. */
    private void whatTellsChangesNothing() {
        Check.promise(22, "what tells");
        full.due("pasture(0, 4)", 5, x -> x.pasture(0, 4));
        full.due("track(0, 15, 0)", 6, x -> x.track(0, 15, 0));
        full.due("shard(0, 4)", 0, x -> x.shard(0, 4));
        full.due("shard(2, 5)", 5, x -> x.shard(2, 5));
        full.due("value(3)", 33, x -> x.value(3));
        full.due("reader(4, 1)", 1, x -> x.reader(4, 1));
        full.due("remembered(4, 2)", 2, x -> x.remembered(4, 2));
        full.due("reach(0, 0, 0)", 0, x -> x.reach(0, 0, 0));
        full.due("reach(5, 0, 0)", 2, x -> x.reach(5, 0, 0));
        full.due("way(5, 0, 2)", 1, x -> x.way(5, 0, 2));
        busy.due("movesIn(2)", 1, x -> x.movesIn(2));
        full.due("count(7)", 6, x -> x.count(7));
    }
}
