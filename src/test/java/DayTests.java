/** Promises 10 and 30: days pass, in six steps, and it is foretold when a shard moves. */
final class DayTests {
    private static final int UNKNOWN = ShardTrails.UNKNOWN;
    private static final int BAD_VALUE = ShardTrails.BAD_VALUE;
    private static final int NOT_POSSIBLE = ShardTrails.NOT_POSSIBLE;
    private static final int NONE = ShardTrails.NONE;

    private static final int LENGTH = 0;
    private static final int LIFE = 1;
    private static final int MARGIN = 2;
    private static final int DROVERS = 3;
    private static final int POST = 4;
    private static final int WARMTH = 5;

    private DayTests() {
    }

    static void run() {
        Check.promise(10, "pass");
        heatCools();
        wolvesGo();
        wolvesCutBeforeShardsMove();
        wolvesCutBeforeTracksGrowOver();
        tracksGrowOver();
        tracksGrowOverBeforeShardsMove();
        hottestFirst();
        coolingComesFirst();
        roomNow();
        margin();
        bestSuited();
        drovers();
        seasonOfTheDay();
        innsPost();
        severalMoves();
        wrongDays();
        lastDay();
        Check.promise(30, "movesIn");
        movesIn();
        movesInSixty();
        movesInChangesNothing();
        movesInBeyondTheLastDay();
    }

    /** Two pastures, the second with this latitude and room; the drovers are 4. */
    private static ShardTrails withPasture(int latitude, int room) {
        ShardTrails x = new ShardTrails();
        x.addPasture(latitude, room, false);
        return x;
    }

    /** So many pastures of latitude 0, and no drovers. */
    private static ShardTrails still(int pastures) {
        ShardTrails x = new ShardTrails();
        for (int p = 1; p < pastures; p++) {
            x.addPasture(0, 16, false);
        }
        x.set(DROVERS, 0);
        return x;
    }

    private static void heatCools() {
        ShardTrails x = still(1);
        x.addReader(0);
        x.set(WARMTH, 21);
        x.request(0, 35);
        int[] due = {21, 15, 11, 8, 6, 4, 3, 2, 1, 0, 0};
        for (int day = 0; day < due.length; day++) {
            Check.due("heat on day " + day, x.shard(2, 1), due[day]);
            Check.due("day", x.count(0), day);
            x.pass(1);
        }
    }

    private static void wolvesGo() {
        ShardTrails x = still(3);
        x.addWolf(0, 2);
        x.addWolf(1, 7);
        int[] first = {0, 2, 1, 0};
        int[] second = {1, 2, 0, 1};
        for (int day = 0; day < 4; day++) {
            for (int p = 0; p < 3; p++) {
                int due = (first[day] == p ? 1 : 0) + (second[day] == p ? 1 : 0);
                Check.due("wolves in " + p + " on day " + day, x.pasture(p, 7), due);
            }
            x.pass(1);
        }
        ShardTrails y = still(3);
        y.addWolf(0, 1);
        y.addPasture(0, 16, true);
        y.move(0, 1);
        y.move(0, 3);
        y.move(0, 2);
        Check.due("tracks", y.count(7), 3);
        y.pass(1);
        Check.due("cut where it comes", y.track(1, 0, 0), NONE);
        Check.due("not where it was", y.track(0, 0, 0), 1);
        Check.due("tracks that wolves cut", y.count(9), 1);
        y.pass(2);
        Check.due("not where an inn is", y.track(3, 0, 0), 2);
        y.pass(1);
        Check.due("and then where it was", y.track(0, 0, 0), NONE);
        Check.due("tracks that wolves cut", y.count(9), 2);
        Check.due("tracks that grew over", y.count(10), 0);
    }

    private static void wolvesCutBeforeShardsMove() {
        ShardTrails x = withPasture(60, 16);
        x.addWolf(1, 1);
        Check.due("moves", x.pass(1), 4);
        Check.due("wolf in 0", x.pasture(0, 7), 1);
        Check.due("tracks in 0", x.pasture(0, 4), 4);
        Check.due("cut", x.count(9), 0);
        x.pass(2);
        Check.due("cut when it comes again: 8", x.count(9), 8);
        Check.due("tracks of the third day alone", x.pasture(0, 4), 4);
    }

    private static void wolvesCutBeforeTracksGrowOver() {
        ShardTrails x = still(2);
        x.set(LIFE, 1);
        x.addWolf(1, 2);
        x.move(0, 1);
        x.move(0, 0);
        x.move(1, 1);
        x.pass(1);
        Check.due("cut", x.count(9), 1);
        Check.due("grown over on the day on which it was left", x.count(10), 0);
        x.move(0, 1);
        x.move(0, 0);
        x.pass(1);
        Check.due("cut", x.count(9), 2);
        Check.due("grown over: the one in 0", x.count(10), 1);
        x.move(0, 1);
        x.move(0, 0);
        x.driveWolf();
        x.pass(1);
        x.addWolf(1, 2);
        x.pass(1);
        Check.due("cut though it is of an age to grow over", x.count(9), 3);
        Check.due("grown over", x.count(10), 1);
    }

    private static void tracksGrowOver() {
        ShardTrails x = still(3);
        x.setInn(1, true);
        x.set(LIFE, 2);
        x.pass(1);
        x.move(0, 1);
        x.move(0, 2);
        Check.due("left on day 1", x.track(0, 0, 1), 1);
        x.pass(2);
        Check.due("there with an age of 1 day at the end of day 2", x.track(0, 0, 0), 1);
        x.pass(1);
        Check.due("gone on day 3", x.track(0, 0, 0), NONE);
        Check.due("its day", x.track(0, 0, 1), NONE);
        Check.due("not where an inn is", x.track(1, 0, 0), 2);
        Check.due("grown over", x.count(10), 1);
        Check.due("cut", x.count(9), 0);
        x.setInn(1, false);
        x.pass(1);
        Check.due("gone without the inn", x.track(1, 0, 0), NONE);
        Check.due("grown over", x.count(10), 2);
        ShardTrails y = still(2);
        y.set(LIFE, 60);
        y.move(0, 1);
        y.pass(60);
        Check.due("there after 60 days", y.count(7), 1);
        y.pass(1);
        Check.due("gone on day 60", y.count(7), 0);
    }

    private static void tracksGrowOverBeforeShardsMove() {
        ShardTrails x = withPasture(60, 16);
        x.set(DROVERS, 0);
        x.set(LIFE, 1);
        x.move(0, 1);
        x.move(0, 0);
        x.pass(1);
        x.set(DROVERS, 1);
        Check.due("moves", x.pass(1), 1);
        Check.due("grown over before the shard comes", x.count(10), 1);
        Check.due("shard 0", x.shard(0, 0), 1);
        Check.due("its track", x.track(0, 0, 0), 1);
        Check.due("left on day 1, the day as it still is", x.track(0, 0, 1), 1);
    }

    private static void hottestFirst() {
        ShardTrails x = withPasture(60, 3);
        x.addReader(0);
        x.request(0, 9 * 16);
        x.request(0, 5 * 16);
        x.request(0, 5 * 16 + 1);
        x.request(0, 7 * 16);
        x.request(0, 12 * 16);
        x.set(DROVERS, 2);
        Check.due("moves", x.pass(1), 2);
        Check.due("the hottest", x.shard(5, 0), 1);
        Check.due("of three the lowest", x.shard(7, 0), 1);
        Check.due("the next", x.shard(9, 0), 0);
        Check.due("moves", x.pass(1), 1);
        Check.due("the next", x.shard(9, 0), 1);
        Check.due("the last", x.shard(12, 0), 0);
        Check.due("without heat", x.shard(0, 0), 0);
    }

    private static void coolingComesFirst() {
        ShardTrails x = withPasture(60, 16);
        x.addReader(0);
        x.set(WARMTH, 1);
        x.set(DROVERS, 1);
        x.request(0, 9 * 16);
        Check.due("place by the heat now", x.shard(9, 4), 0);
        Check.due("foretold", x.movesIn(9), 10);
        Check.due("foretold", x.movesIn(0), 1);
        x.pass(1);
        Check.due("cooled to 0 it is not the first", x.shard(9, 0), 0);
        Check.due("the lowest is", x.shard(0, 0), 1);
    }

    private static void roomNow() {
        ShardTrails x = new ShardTrails();
        x.addPasture(30, 1, false);
        x.addPasture(60, 1, false);
        x.addReader(0);
        x.move(3, 1);
        x.request(0, 3 * 16);
        Check.due("one makes room for the next", x.pass(1), 2);
        Check.due("shard 3", x.shard(3, 0), 2);
        Check.due("shard 0", x.shard(0, 0), 1);
        ShardTrails y = new ShardTrails();
        y.addPasture(30, 1, false);
        y.addPasture(60, 1, false);
        y.move(3, 1);
        Check.due("the first takes the room", y.pass(1), 1);
        Check.due("shard 3", y.shard(3, 0), 1);
        Check.due("shard 0", y.shard(0, 0), 2);
    }

    private static void margin() {
        ShardTrails x = withPasture(9, 16);
        Check.due("nearer by 9", x.pass(1), 0);
        x.set(MARGIN, 9);
        Check.due("nearer by the margin", x.pass(1), 4);
        ShardTrails y = withPasture(10, 16);
        Check.due("nearer by 10", y.pass(1), 4);
        ShardTrails z = withPasture(90, 16);
        z.set(MARGIN, 30);
        Check.due("on the other side", z.pass(1), 4);
        z.set(MARGIN, 31);
        Check.due("and with a greater margin", z.pass(1), 0);
    }

    private static void bestSuited() {
        ShardTrails x = new ShardTrails();
        x.addPasture(50, 1, false);
        x.addPasture(65, 2, false);
        x.addPasture(55, 16, false);
        Check.due("moves", x.pass(1), 4);
        Check.due("of two the lowest number", x.shard(0, 0), 2);
        Check.due("of two the lowest number", x.shard(1, 0), 2);
        Check.due("the one with room", x.shard(2, 0), 3);
        Check.due("the one with room", x.shard(3, 0), 3);
        Check.due("none goes to the other", x.pasture(1, 3), 0);
    }

    private static void drovers() {
        ShardTrails x = withPasture(60, 16);
        x.set(DROVERS, 0);
        Check.due("no drovers", x.pass(3), 0);
        x.set(DROVERS, 1);
        Check.due("one", x.pass(1), 1);
        x.set(DROVERS, 16);
        Check.due("as many as there are", x.pass(1), 15);
        Check.due("all are there", x.pass(1), 0);
        Check.due("moves", x.count(8), 16);
    }

    private static void seasonOfTheDay() {
        ShardTrails x = withPasture(60, 16);
        x.set(LENGTH, 1);
        x.setSeason(0, 0);
        x.setSeason(1, 60);
        Check.due("season 0", x.pass(1), 0);
        Check.due("season 1", x.pass(1), 4);
        x.setSeason(2, 0);
        Check.due("season 2: back", x.pass(1), 4);
    }

    private static void innsPost() {
        ShardTrails x = new ShardTrails();
        x.addPasture(60, 16, true);
        x.addPasture(0, 16, true);
        x.pass(2);
        Check.due("not before day 2", x.track(1, 0, 2), NONE);
        x.pass(1);
        for (int s = 0; s < 16; s++) {
            int due = s < 12 ? 1 : 0;
            Check.due("posted of " + s + " after its move", x.track(1, s, 2), due);
            Check.due("in each inn", x.track(2, s, 2), due);
            Check.due("nowhere else", x.track(0, s, 2), NONE);
        }
        x.pass(1);
        Check.due("shard 12", x.shard(12, 0), 1);
        Check.due("not posted on day 3", x.track(2, 12, 2), 0);
        x.set(POST, 1);
        x.pass(1);
        Check.due("posted each day", x.track(2, 12, 2), 1);
        ShardTrails y = new ShardTrails();
        y.setInn(0, true);
        y.set(POST, 30);
        y.pass(29);
        Check.due("not posted on day 28", y.track(0, 0, 2), NONE);
        y.pass(1);
        Check.due("posted on day 29", y.track(0, 0, 2), 0);
    }

    private static void severalMoves() {
        ShardTrails x = withPasture(60, 1);
        x.set(LENGTH, 1);
        x.setSeason(1, 0);
        Check.due("there and back and there", x.pass(4), 3);
        Check.due("moves of shard 0", x.shard(0, 2), 3);
        Check.due("moves", x.count(8), 3);
        Check.due("states", x.count(13), 4);
        x.undo();
        Check.due("undo() takes all days", x.count(0), 0);
    }

    private static void wrongDays() {
        ShardTrails x = withPasture(60, 16);
        Check.due("0 days", x.pass(0), BAD_VALUE);
        Check.due("-1 days", x.pass(-1), BAD_VALUE);
        Check.due("61 days", x.pass(61), BAD_VALUE);
        Check.due("most days", x.pass(Integer.MAX_VALUE), BAD_VALUE);
        Check.due("least days", x.pass(Integer.MIN_VALUE), BAD_VALUE);
    }

    private static void lastDay() {
        ShardTrails x = new ShardTrails();
        for (int i = 0; i < 166; i++) {
            x.pass(60);
        }
        Check.due("day", x.count(0), 9960);
        Check.due("40 days more", x.pass(40), NOT_POSSIBLE);
        Check.due("61 days more", x.pass(61), BAD_VALUE);
        Check.due("39 days more", x.pass(39), 0);
        Check.due("day", x.count(0), 9999);
        Check.due("1 day more", x.pass(1), NOT_POSSIBLE);
        Check.due("0 days more", x.pass(0), BAD_VALUE);
        Check.due("day", x.count(0), 9999);
        Check.due("season", x.count(1), 1999 % 4);
    }

    private static void movesIn() {
        ShardTrails x = withPasture(60, 16);
        Check.due("shard -1", x.movesIn(-1), UNKNOWN);
        Check.due("shard 16", x.movesIn(16), UNKNOWN);
        for (int s = 0; s < 16; s++) {
            Check.due("shard " + s, x.movesIn(s), s / 4 + 1);
        }
        x.setRoom(1, 6);
        Check.due("as there is room", x.movesIn(5), 2);
        x.setSeason(2, 60);
        Check.due("as there is no room", x.movesIn(6), NONE);
        x.set(DROVERS, 0);
        Check.due("without drovers", x.movesIn(0), NONE);
        ShardTrails y = new ShardTrails();
        Check.due("with one pasture", y.movesIn(0), NONE);
    }

    private static void movesInSixty() {
        ShardTrails x = withPasture(60, 16);
        x.set(LENGTH, 30);
        x.setSeason(0, 0);
        x.setSeason(1, 0);
        x.setSeason(2, 60);
        Check.due("in 61 days", x.movesIn(0), NONE);
        x.pass(1);
        Check.due("in 60 days", x.movesIn(0), 60);
        x.pass(59);
        Check.due("in the next day", x.movesIn(0), 1);
        Check.due("it does", x.pass(1), 4);
    }

    private static void movesInChangesNothing() {
        Unchanged asked = new Unchanged(DayTests::withAllThatMoves);
        asked.due("shard 4", 2, x -> x.movesIn(4));
        ShardTrails x = new ShardTrails();
        withAllThatMoves(x);
        x.pass(1);
        Check.due("one day on", x.movesIn(4), 1);
        Check.due("one that moved: back in season 2", x.movesIn(0), 10);
    }

    private static void withAllThatMoves(ShardTrails x) {
        x.addPasture(60, 16, false);
        x.addWolf(0, 1);
        x.addReader(0);
        x.request(0, 3);
        x.setInn(1, true);
    }

    private static void movesInBeyondTheLastDay() {
        ShardTrails x = withPasture(60, 16);
        x.set(DROVERS, 0);
        for (int i = 0; i < 166; i++) {
            x.pass(60);
        }
        x.pass(39);
        x.set(DROVERS, 4);
        x.set(LENGTH, 1);
        x.setSeason(3, 0);
        Check.due("season", x.count(1), 3);
        Check.due("on day 10000", x.movesIn(0), 2);
        Check.due("on day 10001", x.movesIn(4), 3);
        Check.due("day", x.count(0), 9999);
    }
}
