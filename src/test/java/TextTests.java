/** Promises 16 to 18: a text is typed, emptied, and its requests are done. */
final class TextTests {
    private static final int UNKNOWN = ShardTrails.UNKNOWN;
    private static final int FULL = ShardTrails.FULL;
    private static final int NONE = ShardTrails.NONE;

    private TextTests() {
    }

    static void run() {
        type();
        clearText();
        Check.promise(18, "readRequests");
        faults();
        signs();
        fullTexts();
        oneAfterTheOther();
        allOrNone();
        unknown();
        hopsTogether();
    }

    private static void typeAll(ShardTrails x, String text) {
        x.clearText();
        Worlds.type(x, text);
    }

    private static int read(ShardTrails x, String text) {
        typeAll(x, text);
        return x.readRequests();
    }

    private static ShardTrails withReaders(int readers) {
        ShardTrails x = new ShardTrails();
        for (int i = 0; i < readers; i++) {
            x.addReader(0);
        }
        return x;
    }

    private static void type() {
        Check.promise(16, "type");
        ShardTrails x = new ShardTrails();
        for (int length = 1; length <= 60; length++) {
            Check.due("type", x.type((char) (length * 1111)), length);
        }
        Check.due("a 61st", x.type('0'), FULL);
        Check.due("length", x.count(14), 60);
        Check.due("states", x.count(13), 0);
        Check.due("undo()", x.undo(), NONE);
        String typed = Told.state(y -> Worlds.type(y, "0:0=1,".repeat(11)));
        Check.same("no part of the state", typed, Told.state(y -> { }));
    }

    private static void clearText() {
        Check.promise(17, "clearText");
        ShardTrails x = new ShardTrails();
        Check.due("empty", x.clearText(), 0);
        x.type('x');
        x.type((char) 0);
        x.type((char) 65535);
        Check.due("three", x.clearText(), 3);
        Check.due("empty", x.clearText(), 0);
        Check.due("length", x.count(14), 0);
        Check.due("from the beginning", x.type('y'), 1);
        Check.due("states", x.count(13), 0);
    }

    private static void fault(String text, int due) {
        ShardTrails x = withReaders(6);
        Check.due("readRequests() of " + text, read(x, text), -100 - due);
        Check.due("length", x.count(14), text.length());
        Check.due("states", x.count(13), 4);
    }

    private static void noFault(String text) {
        Check.due("readRequests() of " + text, read(withReaders(6), text), 0);
    }

    private static void faults() {
        fault("", 0);
        fault("6:1", 0);
        fault(":1", 0);
        fault(",0:1", 0);
        fault(" 0:1", 0);
        fault("0", 1);
        fault("00:1", 1);
        fault("0,", 1);
        fault("0=1", 1);
        fault("0:", 2);
        fault("0::", 2);
        fault("0:,", 2);
        fault("0:=1", 2);
        fault("0:-1", 2);
        fault("0:00", 3);
        fault("0:05", 3);
        fault("0:1:", 3);
        fault("0:1 ", 3);
        fault("0:12x", 4);
        fault("0:1234", 5);
        fault("0:123:", 5);
        fault("0:1=", 4);
        fault("0:1=,", 4);
        fault("0:1==", 4);
        fault("0:1=x", 4);
        fault("0:1=00", 5);
        fault("0:1=01", 5);
        fault("0:1=1=", 5);
        fault("0:1=1:", 5);
        fault("0:1=12345", 8);
        fault("0:123=12345", 10);
        fault("0:1,", 4);
        fault("0:1,,", 4);
        fault("0:1,6:1", 4);
        fault("0:1=2,", 6);
        fault("0:1=2,1", 7);
        fault("0:1=2,1:", 8);
        fault("0:1=2,1:0=0,5:255=999x", 21);
        noFault("0:0");
        noFault("5:9");
        noFault("0:10");
        noFault("0:255");
        noFault("0:0=0");
        noFault("0:1=9");
        noFault("0:1=10");
        noFault("0:1=100");
        noFault("0:255=9999");
        noFault("0:0,1:10,2:100,3:0=0,4:1=10,5:200=1000");
    }

    /** Every character at every place of a text: whether it is allowed there. */
    private static void signs() {
        String text = "0:1=2,5:30=0";
        String digits = "0123456789";
        String[] allowed = {"012345", ":", digits, "=," + digits, digits, "," + digits,
            "012345", ":", digits, "=," + digits, "=," + digits, digits};
        for (int place = 0; place < text.length(); place++) {
            for (char sign = 0; sign < 400; sign++) {
                boolean isFault = read(withReaders(6), text.substring(0, place) + sign) == -100 - place;
                boolean isAllowed = allowed[place].indexOf(sign) >= 0;
                Check.holds("sign " + (int) sign + " at " + place + " of " + text, isAllowed != isFault);
            }
        }
        char[] likeDigits = {'\u0660', '\u0030' + 256, '\uff10', '\u003a' + 256, '\uffff'};
        for (char sign : likeDigits) {
            fault(sign + ":1", 0);
            fault("0" + sign + "1", 1);
            fault("0:" + sign, 2);
        }
    }

    private static void fullTexts() {
        String fourteen = "0:0,".repeat(14);
        Check.due("15 requests", read(withReaders(1), fourteen + "0:0"), 0);
        Check.due("15 requests of 60", read(withReaders(1), fourteen + "0:10"), 0);
        fault(fourteen + "0:0,", 60);
        fault(fourteen + "0:0=", 60);
        fault(fourteen + "0:00", 59);
        fault(fourteen + "0:0x", 59);
        fault("x".repeat(60), 0);
        fault("0:255=9999," + "1:255=9999," + "2:255=9999," + "3:255=9999," + "4:255=9999," + "5:25=", 60);
        ShardTrails x = withReaders(1);
        Check.due("hops", read(x, fourteen + "0:0"), 0);
        Check.due("requests", x.count(11), 15);
        Check.due("a 61st is not in the text", read(x, fourteen + "0:10=5"), 0);
        Check.due("value", x.value(10), 0);
        Check.due("requests", x.count(11), 30);
    }

    private static void oneAfterTheOther() {
        ShardTrails x = withReaders(2);
        Check.due("hops", read(x, "0:7=1,1:255=9999,0:7=2,1:8,0:9=0"), 0);
        Check.due("the last value", x.value(7), 2);
        Check.due("9999", x.value(255), 9999);
        Check.due("of one that is only read", x.value(8), 0);
        Check.due("heat", x.shard(0, 1), 80);
        Check.due("requests of 0", x.reader(0, 1), 3);
        Check.due("requests of 1", x.reader(1, 1), 2);
        Check.due("states: two readers and this", x.count(13), 3);
        Check.due("the text stays", x.count(14), 32);
        Check.due("again", x.readRequests(), 0);
        Check.due("requests", x.count(11), 10);
        Check.due("undo() takes one of them", x.undo(), 3);
        Check.due("requests", x.count(11), 5);
        Check.due("undo() takes the other", x.undo(), 2);
        Check.due("the value", x.value(7), 0);
        Check.due("heat", x.shard(0, 1), 0);
        Check.due("the text stays", x.count(14), 32);
        typeAll(x, "0:7");
        x.write(0, 7, 5);
        x.readRequests();
        Check.due("a value that is only read stays", x.value(7), 5);
    }

    private static void allOrNone() {
        ShardTrails x = withReaders(1);
        typeAll(x, "0:7=1,0:8=2,1:9=3");
        Check.due("no reader 1", x.readRequests(), UNKNOWN);
        typeAll(x, "0:7=1,0:256");
        Check.due("no key 256", x.readRequests(), UNKNOWN);
        typeAll(x, "0:7=1,0:8x");
        Check.due("a fault", x.readRequests(), -109);
    }

    private static void unknown() {
        ShardTrails x = withReaders(5);
        Check.due("reader 4", read(x, "4:0"), 0);
        Check.due("reader 5", read(x, "5:0"), UNKNOWN);
        Check.due("key 255", read(x, "0:255"), 0);
        Check.due("key 256", read(x, "0:256"), UNKNOWN);
        Check.due("key 999", read(x, "0:999=9999"), UNKNOWN);
        Check.due("a fault behind them", read(x, "5:999,"), -106);
        Check.due("the first of two", read(x, "5:0,0:0"), UNKNOWN);
        Check.due("the second of two", read(x, "0:0,5:0"), UNKNOWN);
        Check.due("which is no longer there", read(x, "0:0"), 0);
    }

    private static void hopsTogether() {
        ShardTrails x = withReaders(1);
        x.addPasture(0, 16, false);
        x.addPasture(0, 16, false);
        x.addReader(1);
        x.move(0, 1);
        x.move(0, 2);
        Check.due("2 + 0 + 1 + 3 + 0", read(x, "0:0,0:1,1:2,1:16,1:17=4"), 6);
        Check.due("hops of 0", x.reader(0, 2), 2);
        Check.due("hops of 1", x.reader(1, 2), 4);
        Check.due("most hops of 1", x.reader(1, 4), 3);
        Check.due("cries of 1", x.reader(1, 3), 1);
        Check.due("cries", x.count(12), 1);
        Check.due("again", x.readRequests(), 0);
    }
}
