/** Promises 2 to 7: pastures, wolves and readers are added and changed. */
final class PastureTests {
    private static final int UNKNOWN = ShardTrails.UNKNOWN;
    private static final int BAD_VALUE = ShardTrails.BAD_VALUE;
    private static final int FULL = ShardTrails.FULL;
    private static final int NOT_POSSIBLE = ShardTrails.NOT_POSSIBLE;
    private static final int NONE = ShardTrails.NONE;

    private PastureTests() {
    }

    static void run() {
        addPasture();
        addPastureWrong();
        setRoom();
        setInn();
        addWolf();
        driveWolf();
        addReader();
    }

    private static void addPasture() {
        Check.promise(2, "addPasture");
        ShardTrails x = new ShardTrails();
        Check.due("first", x.addPasture(0, 1, false), 1);
        Check.due("second", x.addPasture(90, 16, true), 2);
        int[] first = {0, 1, 0, 0, 0, 60, 0, 0, 0};
        int[] second = {90, 16, 1, 0, 0, 30, 0, 0, 0};
        for (int what = 0; what < first.length; what++) {
            Check.due("pasture(1, " + what + ")", x.pasture(1, what), first[what]);
            Check.due("pasture(2, " + what + ")", x.pasture(2, what), second[what]);
        }
        Check.due("an inn has posted nothing", x.track(2, 0, 2), NONE);
        Check.due("states", x.count(13), 2);
        for (int number = 3; number < 8; number++) {
            Check.due("pasture " + number, x.addPasture(45, 8, false), number);
        }
        Check.due("pastures", x.count(3), 8);
        Check.due("inns", x.count(4), 1);
        Check.due("a ninth", x.addPasture(45, 8, false), FULL);
        Check.due("a ninth that is wrong", x.addPasture(91, 8, false), BAD_VALUE);
        Check.due("pastures still", x.count(3), 8);
        Check.due("undo()", x.undo(), 3);
        Check.due("pastures then", x.count(3), 7);
        Check.due("another one", x.addPasture(1, 2, true), 7);
        Check.due("its latitude", x.pasture(7, 0), 1);
        Check.due("its room", x.pasture(7, 1), 2);
        Check.due("its inn", x.pasture(7, 2), 1);
    }

    private static void addPastureWrong() {
        ShardTrails x = new ShardTrails();
        Check.due("latitude -1", x.addPasture(-1, 1, true), BAD_VALUE);
        Check.due("latitude 91", x.addPasture(91, 1, true), BAD_VALUE);
        Check.due("least latitude", x.addPasture(Integer.MIN_VALUE, 1, true), BAD_VALUE);
        Check.due("room 0", x.addPasture(0, 0, true), BAD_VALUE);
        Check.due("room 17", x.addPasture(0, 17, true), BAD_VALUE);
        Check.due("most room", x.addPasture(0, Integer.MAX_VALUE, true), BAD_VALUE);
    }

    private static void setRoom() {
        Check.promise(3, "setRoom");
        ShardTrails x = new ShardTrails();
        x.addPasture(0, 5, false);
        Check.due("another room", x.setRoom(1, 16), 5);
        Check.due("told", x.pasture(1, 1), 16);
        Check.due("states", x.count(13), 2);
        x.move(0, 1);
        x.move(1, 1);
        Check.due("pasture -1", x.setRoom(-1, 0), UNKNOWN);
        Check.due("pasture 2", x.setRoom(2, 0), UNKNOWN);
        Check.due("room 0", x.setRoom(1, 0), BAD_VALUE);
        Check.due("room 17", x.setRoom(1, 17), BAD_VALUE);
        Check.due("less than its shards", x.setRoom(1, 1), NOT_POSSIBLE);
        Check.due("less than 14", x.setRoom(0, 13), NOT_POSSIBLE);
        Check.due("so already", x.setRoom(1, 16), NONE);
        Check.due("as many as its shards", x.setRoom(1, 2), 16);
        Check.due("so already", x.setRoom(1, 2), NONE);
        Check.due("no room then", x.move(2, 1), FULL);
        Check.due("14 for 14", x.setRoom(0, 14), 16);
        Check.due("least room", x.setRoom(1, 3), 2);
        Check.due("room then", x.move(2, 1), 0);
    }

    private static void setInn() {
        Check.promise(4, "setInn");
        ShardTrails x = new ShardTrails();
        x.addPasture(10, 16, true);
        x.addPasture(20, 16, false);
        Check.due("pasture -1", x.setInn(-1, true), UNKNOWN);
        Check.due("pasture 3", x.setInn(3, true), UNKNOWN);
        Check.due("open already", x.setInn(1, true), NONE);
        Check.due("closed already", x.setInn(2, false), NONE);
        Check.due("opened", x.setInn(2, true), 2);
        Check.due("told", x.pasture(2, 2), 1);
        Check.due("inns", x.count(4), 2);
        Check.due("nothing posted", x.track(2, 3, 2), NONE);
        Check.due("post()", x.post(), 2);
        Check.due("posted", x.track(2, 3, 2), 0);
        Check.due("closed", x.setInn(2, false), 1);
        Check.due("told", x.pasture(2, 2), 0);
        Check.due("lost", x.track(2, 3, 2), NONE);
        Check.due("not lost elsewhere", x.track(1, 3, 2), 0);
        Check.due("opened again", x.setInn(2, true), 2);
        for (int s = 0; s < 16; s++) {
            Check.due("nothing posted of " + s, x.track(2, s, 2), NONE);
        }
        Check.due("states", x.count(13), 4);
        Check.due("in the first", x.setInn(0, true), 3);
        Check.due("post()", x.post(), 3);
        Check.due("posted in the first", x.track(0, 15, 2), 0);
    }

    private static void addWolf() {
        Check.promise(5, "addWolf");
        ShardTrails x = new ShardTrails();
        x.addPasture(10, 16, false);
        Check.due("pasture -1", x.addWolf(-1, 0), UNKNOWN);
        Check.due("pasture 2", x.addWolf(2, 0), UNKNOWN);
        Check.due("stride 0", x.addWolf(0, 0), BAD_VALUE);
        Check.due("stride 8", x.addWolf(0, 8), BAD_VALUE);
        Check.due("first", x.addWolf(1, 1), 0);
        Check.due("second", x.addWolf(1, 7), 1);
        Check.due("third", x.addWolf(0, 2), 2);
        Check.due("fourth", x.addWolf(0, 2), FULL);
        Check.due("fourth, wrong pasture", x.addWolf(2, 8), UNKNOWN);
        Check.due("fourth, wrong stride", x.addWolf(0, 8), BAD_VALUE);
        Check.due("wolves", x.count(5), 3);
        Check.due("in 1", x.pasture(1, 7), 2);
        Check.due("in 0", x.pasture(0, 7), 1);
        Check.due("states", x.count(13), 4);
        x.pass(1);
        Check.due("in 0 after (1 + 1), (1 + 7), (0 + 2) of 2", x.pasture(0, 7), 3);
    }

    private static void driveWolf() {
        Check.promise(6, "driveWolf");
        ShardTrails x = new ShardTrails();
        x.addPasture(10, 16, false);
        Check.due("none", x.driveWolf(), NONE);
        x.addWolf(0, 1);
        x.addWolf(1, 1);
        Check.due("the second", x.driveWolf(), 1);
        Check.due("in 0", x.pasture(0, 7), 1);
        Check.due("in 1", x.pasture(1, 7), 0);
        Check.due("the second is unknown", x.cut(1), UNKNOWN);
        Check.due("the first is known", x.cut(0), NONE);
        Check.due("undo()", x.undo(), 3);
        Check.due("in 1 again", x.pasture(1, 7), 1);
        Check.due("the second", x.driveWolf(), 1);
        Check.due("the first", x.driveWolf(), 0);
        Check.due("none", x.driveWolf(), NONE);
        Check.due("wolves", x.count(5), 0);
        Check.due("a new one", x.addWolf(1, 2), 0);
        Check.due("in 1", x.pasture(1, 7), 1);
        x.pass(1);
        Check.due("with its own stride", x.pasture(1, 7), 1);
    }

    private static void addReader() {
        Check.promise(7, "addReader");
        ShardTrails x = new ShardTrails();
        x.addPasture(10, 16, false);
        Check.due("pasture -1", x.addReader(-1), UNKNOWN);
        Check.due("pasture 2", x.addReader(2), UNKNOWN);
        Check.due("first", x.addReader(1), 0);
        Check.due("second", x.addReader(0), 1);
        for (int s = 0; s < 16; s++) {
            Check.due("first remembers " + s, x.remembered(0, s), 1);
            Check.due("second remembers " + s, x.remembered(1, s), 0);
        }
        int[] first = {1, 0, 0, 0, 0};
        for (int what = 0; what < first.length; what++) {
            Check.due("reader(0, " + what + ")", x.reader(0, what), first[what]);
        }
        for (int number = 2; number < 6; number++) {
            Check.due("reader " + number, x.addReader(1), number);
        }
        Check.due("a seventh", x.addReader(0), FULL);
        Check.due("a seventh in no pasture", x.addReader(2), UNKNOWN);
        Check.due("readers", x.count(6), 6);
        Check.due("states", x.count(13), 4);
        x.request(5, 0);
        x.undo();
        Check.due("undo()", x.undo(), 2);
        Check.due("another one", x.addReader(0), 5);
        Check.due("its home", x.reader(5, 0), 0);
        Check.due("it remembers", x.remembered(5, 0), 0);
        Check.due("its requests", x.reader(5, 1), 0);
    }
}
