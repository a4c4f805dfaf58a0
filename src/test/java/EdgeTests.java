/** The edges that the document's terms name: the least, the greatest, nothing there, and what begins again from 0. */
final class EdgeTests {
    private static final int FULL = ShardTrails.FULL;
    private static final int NONE = ShardTrails.NONE;

    private static final int LENGTH = 0;
    private static final int MARGIN = 2;
    private static final int DROVERS = 3;
    private static final int WARMTH = 5;
    private static final int LEAST_NUMBERS = 0;
    private static final int MOST_NUMBERS = 1;

    private EdgeTests() {
    }

    static void run() {
        allInns();
        wolvesBeginAgain();
        wolvesInOnePasture();
        seasonsBeginAgain();
        leastAndMostSettings();
        leastAndMostMargin();
        allDrovers();
        onlyMovesNeedDrovers();
        askedAnewEachDay();
        postBeginsAgain();
        severalAtTheEdgesOfADay();
        tracksOfOthers();
        mostTracks();
        cutOfAll();
        firstAndLastKeys();
        greatestSum();
        greatestHeat();
        askedAgain();
        sentToWhereItWas();
        sentNowhere();
        longestWay();
        cheapestCry();
        greatestTexts();
        fullHistory();
        snapshotOfNothing();
    }

    private static ShardTrails pastures(int number) {
        ShardTrails x = new ShardTrails();
        for (int p = 1; p < number; p++) {
            x.addPasture(0, 16, false);
        }
        return x;
    }

    private static ShardTrails withPasture(int latitude, int room) {
        ShardTrails x = new ShardTrails();
        x.addPasture(latitude, room, false);
        return x;
    }

    private static void cutIn(ShardTrails x, int pasture) {
        Check.due("a track is cut", x.cut(x.addWolf(pasture, 1)), 1);
    }

    private static void way(ShardTrails x, int reader, int key, int... due) {
        for (int place = 0; place < due.length; place++) {
            Check.due("way(" + reader + ", " + key + ", " + place + ")", x.way(reader, key, place), due[place]);
        }
        Check.due("the way ends", x.way(reader, key, due.length), NONE);
    }

    /** "Returns the number of inns then": from none to one in each of 8 pastures. */
    private static void allInns() {
        Check.promise(4, "setInn");
        ShardTrails x = pastures(8);
        for (int p = 0; p < 8; p++) {
            Check.due("open " + p, x.setInn(p, true), p + 1);
        }
        Check.due("post()", x.post(), 8);
        Check.due("the last one has posted", x.track(7, 15, 2), 0);
        for (int p = 0; p < 8; p++) {
            Check.due("close " + p, x.setInn(p, false), 7 - p);
        }
        Check.due("post()", x.post(), NONE);
    }

    /** "(its pasture + its stride) % (number of pastures)". */
    private static void wolvesBeginAgain() {
        Check.promise(10, "pass");
        ShardTrails x = pastures(8);
        x.addWolf(7, 1);
        x.addWolf(1, 7);
        x.addWolf(0, 7);
        x.pass(1);
        Check.due("7 + 1 and 1 + 7", x.pasture(0, 7), 2);
        Check.due("0 + 7", x.pasture(7, 7), 1);
        x.pass(1);
        Check.due("0 + 1", x.pasture(1, 7), 1);
        Check.due("0 + 7", x.pasture(7, 7), 1);
        Check.due("7 + 7", x.pasture(6, 7), 1);
        ShardTrails y = pastures(2);
        y.addWolf(1, 1);
        y.addPasture(0, 16, false);
        y.pass(1);
        Check.due("1 + 1 with a third pasture", y.pasture(2, 7), 1);
        y.pass(1);
        Check.due("2 + 1", y.pasture(0, 7), 1);
    }

    /** Every stride leads back to the only pasture, and to the same one if it is as great as their number. */
    private static void wolvesInOnePasture() {
        for (int stride = 1; stride <= 7; stride++) {
            ShardTrails x = new ShardTrails();
            x.addWolf(0, stride);
            x.pass(60);
            Check.due("stride " + stride, x.pasture(0, 7), 1);
        }
        ShardTrails y = pastures(7);
        y.set(DROVERS, 0);
        y.addWolf(6, 7);
        y.move(0, 6);
        y.move(0, 5);
        y.pass(1);
        Check.due("it stays", y.pasture(6, 7), 1);
        Check.due("and cuts there", y.track(6, 0, 0), NONE);
        Check.due("and not elsewhere", y.track(0, 0, 0), 6);
    }

    /** "The season is (day / length) % 4": the last day of each, and the first of the next. */
    private static void seasonsBeginAgain() {
        Check.promise(31, "count");
        for (int length : new int[] {1, 2, 5, 30}) {
            ShardTrails x = new ShardTrails();
            x.set(LENGTH, length);
            for (int season = 0; season < 4; season++) {
                x.setSeason(season, 80 + season);
            }
            for (int season = 0; season < 6; season++) {
                Check.due("first day of " + length, x.count(1), season % 4);
                Check.due("its latitude", x.count(2), 80 + season % 4);
                if (length > 1) {
                    x.pass(length - 1);
                    Check.due("last day of " + length, x.count(1), season % 4);
                    Check.due("its distance", x.pasture(0, 5), 80 + season % 4);
                }
                x.pass(1);
            }
        }
    }

    /** Each number at its least and at its greatest is there for the days that pass. */
    private static void leastAndMostSettings() {
        Check.promise(9, "set");
        int[][] bounds = {{1, 1, 1, 0, 1, 0}, {30, 60, 90, 16, 30, 100}};
        for (int side = LEAST_NUMBERS; side <= MOST_NUMBERS; side++) {
            ShardTrails x = withPasture(60, 16);
            x.setInn(1, true);
            x.addReader(0);
            for (int what = 0; what < 6; what++) {
                x.set(what, bounds[side][what]);
            }
            x.request(0, 0);
            Check.due("heat", x.shard(0, 1), bounds[side][WARMTH]);
            Check.due("without drovers, or nearer by 60 for 90", x.pass(1), 0);
            Check.due("season", x.count(1), side == LEAST_NUMBERS ? 1 : 0);
            Check.due("posted", x.track(1, 0, 2), side == LEAST_NUMBERS ? 0 : NONE);
            x.move(0, 1);
            x.move(0, 0);
            x.move(0, 1);
            x.setInn(1, false);
            x.pass(1);
            Check.due("a track of this day", x.count(7), 1);
            x.pass(59);
            Check.due("a track of 59 days", x.count(7), side == LEAST_NUMBERS ? 0 : 1);
            Check.due("season on day 61", x.count(1), side == LEAST_NUMBERS ? 61 % 4 : 61 / 30);
            x.pass(1);
            Check.due("a track of 60 days", x.count(7), 0);
        }
    }

    /** "Less than that of the pasture of the shard by at least the margin". */
    private static void leastAndMostMargin() {
        Check.promise(10, "pass");
        int[][] rows = {
            {60, 0, 1, 0}, {60, 1, 1, 4}, {60, 1, 2, 0}, {60, 2, 2, 4}, {60, 60, 60, 4}, {60, 60, 61, 0},
            {90, 90, 90, 4}, {90, 89, 90, 0}, {0, 1, 1, 0}, {30, 61, 1, 0}, {30, 60, 1, 0}, {30, 59, 1, 4},
        };
        for (int[] row : rows) {
            ShardTrails x = withPasture(row[1], 16);
            x.setSeason(0, row[0]);
            x.set(MARGIN, row[2]);
            int days = row[3] > 0 ? 1 : NONE;
            String name = "to " + row[1] + " for " + row[0] + " with the margin " + row[2];
            if (row[3] == 0) {
                x.setSeason(1, row[0]);
                x.setSeason(2, row[0]);
                x.setSeason(3, row[0]);
            }
            Check.due("foretold " + name, x.movesIn(0), days);
            Check.due(name, x.pass(1), row[3]);
        }
    }

    /** "At most so many shards move in a day as the drovers tell", and as there is room for. */
    private static void allDrovers() {
        ShardTrails x = withPasture(60, 16);
        x.set(DROVERS, 16);
        Check.due("all", x.pass(1), 16);
        Check.due("none is left", x.pasture(0, 3), 0);
        Check.due("a full pasture", x.pasture(1, 3), 16);
        Check.due("the last one looks back", x.shard(15, 5), 0);
        ShardTrails y = withPasture(60, 15);
        y.set(DROVERS, 16);
        Check.due("all but one", y.pass(1), 15);
        Check.due("which is the coldest with the highest number", y.shard(15, 0), 0);
        Check.due("no room for it by hand", y.move(15, 1), FULL);
        Check.due("nor ever by itself: the others are asked first", y.movesIn(15), NONE);
        ShardTrails z = withPasture(60, 16);
        z.set(DROVERS, 15);
        Check.due("15 drovers", z.pass(1), 15);
        Check.due("the last one on the next day", z.pass(1), 1);
    }

    /** One that is asked and stays takes no drover from the next. */
    private static void onlyMovesNeedDrovers() {
        ShardTrails x = withPasture(60, 16);
        x.addReader(0);
        x.move(9, 1);
        x.request(0, 9 * 16);
        x.set(DROVERS, 1);
        Check.due("the hottest is there", x.shard(9, 4), 0);
        Check.due("the next moves", x.pass(1), 1);
        Check.due("shard 0", x.shard(0, 0), 1);
    }

    /** "As they are at the beginning of this step": the order of one day is none of the next. */
    private static void askedAnewEachDay() {
        ShardTrails x = withPasture(60, 16);
        x.addReader(0);
        x.set(DROVERS, 1);
        x.request(0, 9 * 16);
        x.pass(1);
        Check.due("the hottest", x.shard(9, 0), 1);
        x.pass(1);
        Check.due("the lowest number of the cold", x.shard(0, 0), 1);
        x.request(0, 12 * 16);
        x.pass(1);
        Check.due("the hottest then", x.shard(12, 0), 1);
        x.pass(1);
        Check.due("the next of the cold", x.shard(1, 0), 1);
        Check.due("foretold", x.movesIn(2), 1);
        Check.due("foretold", x.movesIn(2), 1);
    }

    /** "If (day + 1) can be divided by the post". */
    private static void postBeginsAgain() {
        ShardTrails x = pastures(2);
        x.setInn(1, true);
        x.set(DROVERS, 0);
        x.pass(2);
        Check.due("not on day 1", x.track(1, 0, 2), NONE);
        x.pass(1);
        Check.due("on day 2", x.track(1, 0, 2), 0);
        x.move(0, 1);
        x.pass(2);
        Check.due("not on day 4", x.track(1, 0, 2), 0);
        x.pass(1);
        Check.due("on day 5", x.track(1, 0, 2), 1);
    }

    /** 60 days in one call are as 60 calls of one day. */
    private static void severalAtTheEdgesOfADay() {
        Check.same("60 days", Told.state(x -> {
            Worlds.busy(x);
            x.pass(60);
        }), Told.state(x -> {
            Worlds.busy(x);
            for (int day = 0; day < 60; day++) {
                x.pass(1);
            }
        }));
    }

    /** "If there is a track of this shard in the pasture to which it goes, it is gone": this one alone. */
    private static void tracksOfOthers() {
        Check.promise(11, "move");
        ShardTrails x = pastures(3);
        x.move(4, 1);
        x.move(5, 1);
        x.move(5, 2);
        x.move(5, 0);
        Check.due("of 5 in 0", x.track(0, 5, 0), NONE);
        Check.due("of 4 in 0", x.track(0, 4, 0), 1);
        Check.due("of 5 in 1", x.track(1, 5, 0), 2);
        Check.due("of 5 in 2", x.track(2, 5, 0), 0);
        x.move(5, 2);
        Check.due("of 5 in 2", x.track(2, 5, 0), NONE);
        Check.due("of 5 in 1", x.track(1, 5, 0), 2);
        Check.due("of 5 in 0", x.track(0, 5, 0), 2);
    }

    /** One track of each shard in each pasture but its own. */
    private static void mostTracks() {
        ShardTrails x = pastures(8);
        for (int p = 1; p < 8; p++) {
            for (int s = 0; s < 16; s++) {
                Check.due("move(" + s + ", " + p + ")", x.move(s, p), p - 1);
            }
        }
        Check.due("tracks", x.count(7), 112);
        Check.due("moves", x.count(8), 112);
        Check.due("tracks of the last shard", x.shard(15, 3), 7);
        Check.due("tracks in the first pasture", x.pasture(0, 4), 16);
        Check.due("tracks in the last pasture", x.pasture(7, 4), 0);
        x.addReader(0);
        Check.due("hops by seven tracks", x.request(0, 255), 7);
    }

    /** "All tracks in its pasture are gone". */
    private static void cutOfAll() {
        Check.promise(13, "cut");
        ShardTrails x = pastures(2);
        for (int s = 0; s < 16; s++) {
            x.move(s, 1);
        }
        x.addWolf(0, 1);
        Check.due("of every shard", x.cut(0), 16);
        Check.due("tracks", x.count(7), 0);
        Check.due("no track", x.cut(0), NONE);
        Check.due("cut", x.count(9), 16);
    }

    /** "A shard has the keys from 16 * its number to 16 * its number + 15". */
    private static void firstAndLastKeys() {
        Check.promise(24, "shard");
        for (int s = 0; s < 16; s++) {
            ShardTrails x = new ShardTrails();
            x.addReader(0);
            x.write(0, 16 * s, 1000 + s);
            x.write(0, 16 * s + 15, 7);
            for (int other = 0; other < 16; other++) {
                Check.due("heat of " + other, x.shard(other, 1), other == s ? 40 : 0);
                Check.due("values of " + other, x.shard(other, 6), other == s ? 1007 + s : 0);
            }
        }
    }

    /** Values are at most 9999, and a shard has 16. */
    private static void greatestSum() {
        ShardTrails x = new ShardTrails();
        x.addReader(0);
        for (int key = 240; key < 256; key++) {
            x.write(0, key, 9999);
        }
        Check.due("sum", x.shard(15, 6), 159984);
        Check.due("of the shard below", x.shard(14, 6), 0);
    }

    /** "The heat is never more than 9999." */
    private static void greatestHeat() {
        Check.promise(14, "request");
        ShardTrails x = new ShardTrails();
        x.addReader(0);
        x.set(WARMTH, 100);
        for (int i = 0; i < 99; i++) {
            x.request(0, 0);
        }
        x.set(WARMTH, 98);
        x.request(0, 0);
        Check.due("9900 + 98", x.shard(0, 1), 9998);
        x.keep();
        x.set(WARMTH, 2);
        x.request(0, 0);
        Check.due("9998 + 2", x.shard(0, 1), 9999);
        x.restore();
        x.set(WARMTH, 1);
        x.request(0, 0);
        Check.due("9998 + 1", x.shard(0, 1), 9999);
        x.write(0, 0, 5);
        Check.due("9999 + 1", x.shard(0, 1), 9999);
        x.set(WARMTH, 0);
        x.request(0, 0);
        Check.due("9999 + 0", x.shard(0, 1), 9999);
        x.set(WARMTH, 100);
        Worlds.type(x, "0:0,0:1");
        x.readRequests();
        Check.due("9999 + 100 + 100", x.shard(0, 1), 9999);
        Check.due("of the pasture", x.pasture(0, 6), 9999);
    }

    /** "If there is an inn here that it has not asked yet": a track leads back to one that was asked. */
    private static void askedAgain() {
        Check.promise(28, "reach");
        ShardTrails x = pastures(5);
        x.setInn(2, true);
        x.addReader(1);
        x.move(5, 2);
        x.move(5, 1);
        x.move(5, 3);
        cutIn(x, 1);
        x.setInn(1, true);
        x.post();
        x.move(5, 4);
        cutIn(x, 3);
        int[] due = {3 + 5, 1, 1, 1, 1};
        for (int what = 0; what < due.length; what++) {
            Check.due("reach(0, 80, " + what + ")", x.reach(0, 80, what), due[what]);
        }
        way(x, 0, 80, 1, 3, 2, 1, 4);
        Check.due("request", x.request(0, 80), 8);
    }

    /** "(It may have been there otherwise)": an inn pointed to a pasture in which an inn is opened then. */
    private static void sentToWhereItWas() {
        ShardTrails x = pastures(5);
        x.setInn(1, true);
        x.addReader(1);
        x.move(5, 2);
        x.post();
        x.setInn(3, true);
        x.move(5, 4);
        cutIn(x, 2);
        x.setInn(2, true);
        int[] due = {3 + 5, 0, 1, 2, 1};
        for (int what = 0; what < due.length; what++) {
            Check.due("reach(0, 80, " + what + ")", x.reach(0, 80, what), due[what]);
        }
        way(x, 0, 80, 1, 2, 3, 2, 4);
    }

    /** "Inns in other pastures": the reader is not sent to the inn where it is. */
    private static void sentNowhere() {
        ShardTrails x = pastures(2);
        x.setInn(1, true);
        x.addReader(1);
        int[] due = {2, 0, 0, 0, 1};
        for (int what = 0; what < due.length; what++) {
            Check.due("reach(0, 0, " + what + ")", x.reach(0, 0, what), due[what]);
        }
        way(x, 0, 0, 1, 0);
        x.request(0, 0);
        Check.due("sent to it", x.pasture(1, 8), 0);
    }

    /** Each of six inns keeps a track to the next one, and the reader is sent to each of them. */
    private static void longestWay() {
        ShardTrails x = pastures(8);
        for (int p = 0; p < 6; p++) {
            x.setInn(p, true);
        }
        x.addReader(0);
        for (int p = 1; p < 8; p++) {
            x.move(5, p);
        }
        cutIn(x, 6);
        int[] due = {27 + 6 + 8, 27, 0, 6, 1};
        for (int what = 0; what < due.length; what++) {
            Check.due("reach(0, 80, " + what + ")", x.reach(0, 80, what), due[what]);
        }
        way(x, 0, 80, 0, 1, 2, 3, 4, 5, 6, 0, 1, 2, 3, 4, 5, 6, 1, 2, 3, 4, 5, 6,
            2, 3, 4, 5, 6, 3, 4, 5, 6, 4, 5, 6, 5, 6, 7);
        Check.due("request", x.request(0, 80), 41);
        Check.due("most hops", x.reader(0, 4), 41);
        for (int p = 0; p < 8; p++) {
            Check.due("sent to " + p, x.pasture(p, 8), p < 6 ? 1 : 0);
        }
    }

    /** "This costs as many hops as there are pastures": two of them at least. */
    private static void cheapestCry() {
        ShardTrails x = pastures(2);
        x.addReader(1);
        Check.due("reach(0, 0, 0)", x.reach(0, 0, 0), 2);
        Check.due("reach(0, 0, 4)", x.reach(0, 0, 4), 1);
        Check.due("request", x.request(0, 0), 2);
        Check.due("reach(0, 0, 4) then", x.reach(0, 0, 4), 0);
        Check.due("cries", x.count(12), 1);
    }

    /** 60 characters: as many requests as there can be, and the longest ones. */
    private static void greatestTexts() {
        Check.promise(18, "readRequests");
        ShardTrails x = pastures(8);
        for (int r = 0; r < 6; r++) {
            x.addReader(r + 2);
        }
        Worlds.type(x, "5:255=9999,4:254=9998,3:253=9997,2:252=9996,1:251=9995,0:0=0");
        Check.due("length", x.count(14), 60);
        Check.due("six cries", x.readRequests(), 48);
        for (int key = 251; key < 256; key++) {
            Check.due("value of " + key, x.value(key), 9744 + key);
        }
        Check.due("heat", x.shard(15, 1), 100);
        Check.due("states", x.count(13), 4);
        Check.due("again", x.readRequests(), 0);
        Check.due("length", x.clearText(), 60);
        ShardTrails y = pastures(2);
        y.addReader(1);
        Worlds.type(y, "0:0," + "0:16,".repeat(11) + "0");
        Check.due("it ends too early", y.readRequests(), -160);
        Check.due("requests", y.count(11), 0);
    }

    /** "When one more is recorded, the oldest one is dropped", whatever the act is. */
    private static void fullHistory() {
        Check.promise(19, "undo");
        ShardTrails x = new ShardTrails();
        x.keep();
        x.pass(1);
        x.pass(2);
        x.pass(3);
        x.pass(4);
        Check.due("full", x.count(13), 4);
        x.restore();
        Check.due("full still", x.count(13), 4);
        int[] days = {10, 6, 3, 1};
        for (int i = 0; i < days.length; i++) {
            Check.due("undo()", x.undo(), 3 - i);
            Check.due("day", x.count(0), days[i]);
        }
        Check.due("empty", x.undo(), NONE);
        Check.due("day", x.count(0), 1);
        Check.due("the snapshot stays", x.restore(), 0);
        Check.due("one", x.count(13), 1);
    }

    /** A snapshot of a new object is no empty snapshot. */
    private static void snapshotOfNothing() {
        Check.promise(21, "restore");
        ShardTrails x = new ShardTrails();
        Check.due("keep()", x.keep(), 0);
        Check.due("restore()", x.restore(), 0);
        Check.due("states", x.count(13), 1);
        Check.due("undo()", x.undo(), 0);
        Check.due("restore() still", x.restore(), 0);
        x.addPasture(1, 1, true);
        x.addReader(1);
        x.addWolf(1, 1);
        Check.due("restore() of no reader and no wolf", x.restore(), 0);
        Check.due("readers", x.count(6), 0);
        Check.due("wolves", x.count(5), 0);
        Check.due("pastures", x.count(3), 1);
        Check.due("inns", x.count(4), 0);
    }
}
