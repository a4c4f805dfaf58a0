/** Promises 11 to 13: a shard is moved, inns post and a wolf cuts by hand. */
final class HandTests {
    private static final int UNKNOWN = ShardTrails.UNKNOWN;
    private static final int FULL = ShardTrails.FULL;
    private static final int NONE = ShardTrails.NONE;

    private HandTests() {
    }

    static void run() {
        move();
        tracksOfMoves();
        moveWrong();
        post();
        cut();
    }

    private static ShardTrails threePastures() {
        ShardTrails x = new ShardTrails();
        x.addPasture(0, 16, false);
        x.addPasture(0, 16, false);
        return x;
    }

    private static void move() {
        Check.promise(11, "move");
        ShardTrails x = threePastures();
        Check.due("from 0", x.move(15, 2), 0);
        Check.due("states", x.count(13), 3);
        Check.due("where it is", x.shard(15, 0), 2);
        Check.due("its moves", x.shard(15, 2), 1);
        Check.due("shards in 0", x.pasture(0, 3), 15);
        Check.due("shards in 2", x.pasture(2, 3), 1);
        Check.due("from 2", x.move(15, 1), 2);
        Check.due("from 1", x.move(15, 0), 1);
        Check.due("its moves", x.shard(15, 2), 3);
        Check.due("of another one", x.shard(14, 2), 0);
        Check.due("moves", x.count(8), 3);
    }

    private static void tracksOfMoves() {
        ShardTrails x = threePastures();
        x.pass(2);
        x.move(4, 1);
        Check.due("it leads to 1", x.track(0, 4, 0), 1);
        Check.due("left on day 2", x.track(0, 4, 1), 2);
        Check.due("none where it came", x.track(1, 4, 0), NONE);
        Check.due("none of another one", x.track(0, 3, 0), NONE);
        x.pass(1);
        x.move(4, 2);
        Check.due("the older one stays", x.track(0, 4, 1), 2);
        Check.due("the next leads to 2", x.track(1, 4, 0), 2);
        Check.due("left on day 3", x.track(1, 4, 1), 3);
        Check.due("tracks of it", x.shard(4, 3), 2);
        x.move(4, 1);
        Check.due("gone where it comes again", x.track(1, 4, 0), NONE);
        Check.due("the new one leads to 1", x.track(2, 4, 0), 1);
        x.move(4, 0);
        Check.due("gone in 0", x.track(0, 4, 0), NONE);
        Check.due("tracks", x.count(7), 2);
        Check.due("neither cut", x.count(9), 0);
        Check.due("nor grown over", x.count(10), 0);
        x.pass(1);
        x.move(4, 2);
        Check.due("a new one in 0", x.track(0, 4, 0), 2);
        Check.due("left on day 4", x.track(0, 4, 1), 4);
    }

    private static void moveWrong() {
        ShardTrails x = threePastures();
        x.setRoom(1, 1);
        x.move(3, 1);
        Check.due("shard -1", x.move(-1, 1), UNKNOWN);
        Check.due("shard 16", x.move(16, 1), UNKNOWN);
        Check.due("pasture -1", x.move(0, -1), UNKNOWN);
        Check.due("pasture 3", x.move(0, 3), UNKNOWN);
        Check.due("no room", x.move(0, 1), FULL);
        Check.due("there, without room", x.move(3, 1), NONE);
        Check.due("there", x.move(0, 0), NONE);
        Check.due("the room is free again", x.move(3, 0), 1);
        Check.due("for another one", x.move(0, 1), 0);
        ShardTrails y = new ShardTrails();
        Check.due("the only full pasture", y.move(5, 0), NONE);
    }

    private static void post() {
        Check.promise(12, "post");
        ShardTrails x = threePastures();
        Check.due("no inn", x.post(), NONE);
        x.setInn(0, true);
        x.setInn(2, true);
        x.move(6, 1);
        Check.due("two inns", x.post(), 2);
        for (int s = 0; s < 16; s++) {
            int due = s == 6 ? 1 : 0;
            Check.due("0 tells of " + s, x.track(0, s, 2), due);
            Check.due("2 tells of " + s, x.track(2, s, 2), due);
            Check.due("1 is no inn: " + s, x.track(1, s, 2), NONE);
        }
        x.move(6, 2);
        Check.due("as it was", x.track(0, 6, 2), 1);
        Check.due("again", x.post(), 2);
        Check.due("as it is", x.track(0, 6, 2), 2);
        Check.due("again, with nothing new", x.post(), 2);
        x.undo();
        x.undo();
        Check.due("as it was", x.track(0, 6, 2), 1);
    }

    private static void cut() {
        Check.promise(13, "cut");
        ShardTrails x = threePastures();
        x.addWolf(0, 1);
        x.addWolf(1, 1);
        x.move(0, 1);
        x.move(1, 2);
        x.move(0, 2);
        x.setInn(1, true);
        Check.due("wolf -1", x.cut(-1), UNKNOWN);
        Check.due("wolf 2", x.cut(2), UNKNOWN);
        Check.due("where an inn is", x.cut(1), NONE);
        Check.due("two", x.cut(0), 2);
        Check.due("gone", x.track(0, 0, 0), NONE);
        Check.due("gone", x.track(0, 1, 0), NONE);
        Check.due("not elsewhere", x.track(1, 0, 0), 2);
        Check.due("tracks", x.count(7), 1);
        Check.due("cut", x.count(9), 2);
        Check.due("no more", x.cut(0), NONE);
        Check.due("the wolf stays", x.pasture(0, 7), 1);
        x.setInn(1, false);
        Check.due("without the inn", x.cut(1), 1);
        Check.due("cut", x.count(9), 3);
        x.undo();
        Check.due("cut", x.count(9), 2);
        Check.due("there again", x.track(1, 0, 0), 2);
    }
}
