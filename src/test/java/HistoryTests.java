import java.util.function.Consumer;

/** Promises 19 to 21: acts are undone, and a snapshot is kept and restored. */
final class HistoryTests {
    private static final int NONE = ShardTrails.NONE;
    private static final int ACTS = 24;
    private static final int RESTORE = 16;

    private HistoryTests() {
    }

    static void run() {
        undo();
        undoOfEachAct();
        undoOfWhatIsWrittenOver();
        whatIsNoAct();
        keep();
        restore();
        snapshotOfAll();
    }

    private static void undo() {
        Check.promise(19, "undo");
        ShardTrails x = new ShardTrails();
        Check.due("empty", x.undo(), NONE);
        for (int i = 1; i <= 6; i++) {
            x.set(5, 20 + i);
            Check.due("states", x.count(13), Math.min(i, 4));
        }
        for (int left = 3; left >= 0; left--) {
            Check.due("undo()", x.undo(), left);
            Check.due("states", x.count(13), left);
        }
        Check.due("empty", x.undo(), NONE);
        Check.due("the oldest were dropped", x.set(5, 50), 22);
        Check.due("states", x.count(13), 1);
        x.set(5, 51);
        x.undo();
        x.set(5, 52);
        Check.due("states", x.count(13), 2);
        x.undo();
        Check.due("an act behind an undo()", x.set(5, 53), 50);
        for (int i = 0; i < 9; i++) {
            x.set(5, 60 + i);
        }
        x.undo();
        x.undo();
        x.set(5, 70);
        Check.due("states", x.count(13), 3);
        x.undo();
        x.undo();
        x.undo();
        Check.due("the oldest of nine that is there", x.set(5, 71), 64);
    }

    private static int act(ShardTrails x, int number) {
        switch (number) {
            case 0: return x.addPasture(44, 3, true);
            case 1: return x.setRoom(2, 16);
            case 2: return x.setInn(1, false);
            case 3: return x.setInn(2, true);
            case 4: return x.addWolf(1, 5);
            case 5: return x.driveWolf();
            case 6: return x.addReader(1);
            case 7: return x.setSeason(0, 7);
            case 8: return x.setSeason(3, 7);
            case 9: return x.pass(7);
            case 10: return x.move(5, 3);
            case 11: return x.post();
            case 12: return x.cut(0);
            case 13: return x.request(0, 100);
            case 14: return x.write(0, 200, 9);
            case 15: return x.readRequests();
            case RESTORE: return x.restore();
            case 17: return x.setInn(0, true);
            default: return x.set(number - 18, 6);
        }
    }

    private static void undoOfEachAct() {
        Unchanged undone = new Unchanged(HistoryTests::withSnapshot);
        for (int number = 0; number < ACTS; number++) {
            int which = number;
            ShardTrails x = new ShardTrails();
            withSnapshot(x);
            int states = x.count(13);
            int answer = act(x, number);
            Check.holds("act " + number + " answers " + answer, answer >= 0);
            Check.due("states after act " + number, x.count(13), states + 1);
            undone.due("undo() of act " + number, states, y -> {
                act(y, which);
                return y.undo();
            });
        }
    }

    /** Busy, with a snapshot of another state. */
    private static void withSnapshot(ShardTrails x) {
        Worlds.busy(x);
        x.keep();
        x.undo();
    }

    /** What an act puts in the place of something of the same kind comes back, too. */
    private static void undoOfWhatIsWrittenOver() {
        ShardTrails x = new ShardTrails();
        x.addPasture(0, 16, false);
        x.set(3, 0);
        x.move(0, 1);
        x.pass(1);
        x.move(0, 0);
        x.move(0, 1);
        Check.due("left on day 1", x.track(0, 0, 1), 1);
        x.undo();
        x.undo();
        Check.due("left on day 0", x.track(0, 0, 1), 0);
        x.set(1, 1);
        x.pass(1);
        Check.due("grown over", x.count(10), 1);
        x.undo();
        Check.due("not grown over", x.count(10), 0);
        ShardTrails y = new ShardTrails();
        y.addPasture(0, 16, false);
        y.addWolf(1, 2);
        y.addReader(1);
        y.keep();
        y.undo();
        y.undo();
        y.addWolf(0, 1);
        y.addReader(0);
        y.restore();
        Check.due("the first home", y.reader(0, 0), 1);
        Check.due("the first wolf", y.pasture(1, 7), 1);
        y.pass(1);
        Check.due("its stride", y.pasture(1, 7), 1);
    }

    private static void whatIsNoAct() {
        ShardTrails x = new ShardTrails();
        Worlds.busy(x);
        int states = x.count(13);
        x.keep();
        x.type('x');
        x.clearText();
        x.readRequests();
        x.set(9, 9);
        x.set(0, 5);
        x.move(0, 99);
        x.way(0, 0, 0);
        Check.due("states", x.count(13), states);
        x.undo();
        Check.due("undo() is no act", x.count(13), states - 1);
    }

    private static void keep() {
        Check.promise(20, "keep");
        ShardTrails x = new ShardTrails();
        Check.due("day 0", x.keep(), 0);
        Check.due("states", x.count(13), 0);
        x.pass(7);
        Check.due("day 7", x.keep(), 7);
        x.pass(1);
        Check.due("in place of the one that was", x.restore(), 7);
        Check.due("day", x.count(0), 7);
        x.pass(3);
        x.undo();
        Check.due("undo() brings the day", x.keep(), 7);
    }

    private static void restore() {
        Check.promise(21, "restore");
        ShardTrails x = new ShardTrails();
        Check.due("no snapshot", x.restore(), NONE);
        Check.due("states", x.count(13), 0);
        x.pass(2);
        x.undo();
        Check.due("no snapshot", x.restore(), NONE);
        x.pass(2);
        x.keep();
        x.pass(2);
        x.type('0');
        x.type('1');
        Check.due("day 2", x.restore(), 2);
        Check.due("states", x.count(13), 3);
        Check.due("the text stays", x.count(14), 2);
        Check.due("so already, but an act", x.restore(), 2);
        Check.due("states", x.count(13), 4);
        x.undo();
        Check.due("undo() of an act", x.undo(), 2);
        Check.due("day", x.count(0), 4);
        x.undo();
        x.undo();
        Check.due("day", x.count(0), 0);
        Check.due("the snapshot stays", x.restore(), 2);
        Check.due("the history is no part of it", x.count(13), 1);
    }

    private static void snapshotOfAll() {
        String kept = Told.state(Worlds::busy);
        Consumer<ShardTrails> changed = x -> {
            Worlds.busy(x);
            x.keep();
            for (int number = 0; number < ACTS; number++) {
                if (number != RESTORE) {
                    act(x, number);
                }
            }
        };
        Check.holds("much is changed", !Told.state(changed).equals(kept));
        Consumer<ShardTrails> restored = changed.andThen(ShardTrails::restore);
        Check.same("all is restored", Told.state(restored), kept);
        Consumer<ShardTrails> again = restored.andThen(x -> {
            act(x, 14);
            act(x, 10);
            x.restore();
        });
        Check.same("all is restored again", Told.state(again), kept);
    }
}
