/** Promises 8 and 9: seasons and numbers are set. */
final class SettingTests {
    private static final int BAD_VALUE = ShardTrails.BAD_VALUE;
    private static final int NONE = ShardTrails.NONE;

    private SettingTests() {
    }

    static void run() {
        setSeason();
        set();
        setWrong();
        lengthOfSeasons();
    }

    private static void setSeason() {
        Check.promise(8, "setSeason");
        ShardTrails x = new ShardTrails();
        Check.due("season -1", x.setSeason(-1, 1), BAD_VALUE);
        Check.due("season 4", x.setSeason(4, 1), BAD_VALUE);
        Check.due("latitude -1", x.setSeason(0, -1), BAD_VALUE);
        Check.due("latitude 91", x.setSeason(0, 91), BAD_VALUE);
        Check.due("so already", x.setSeason(2, 20), NONE);
        Check.due("season 0", x.setSeason(0, 0), 60);
        Check.due("present latitude", x.count(2), 0);
        Check.due("season 3", x.setSeason(3, 90), 40);
        Check.due("season 3 again", x.setSeason(3, 90), NONE);
        Check.due("season 1", x.setSeason(1, 1), 40);
        Check.due("season 2", x.setSeason(2, 2), 20);
        Check.due("states", x.count(13), 4);
        int[] due = {0, 1, 2, 90, 0};
        for (int season = 0; season < due.length; season++) {
            Check.due("season", x.count(1), season % 4);
            Check.due("latitude in season " + season, x.count(2), due[season]);
            Check.due("distance in season " + season, x.pasture(0, 5), due[season]);
            x.pass(5);
        }
    }

    private static void set() {
        Check.promise(9, "set");
        int[] least = {1, 1, 1, 0, 1, 0};
        int[] most = {30, 60, 90, 16, 30, 100};
        int[] first = {5, 10, 10, 4, 3, 20};
        for (int what = 0; what < 6; what++) {
            ShardTrails x = new ShardTrails();
            String call = "set(" + what + ")";
            Check.due(call + " to the most", x.set(what, most[what]), first[what]);
            Check.due(call + " to the least", x.set(what, least[what]), most[what]);
            Check.due(call + " so already", x.set(what, least[what]), NONE);
            Check.due(call + " states", x.count(13), 2);
            Check.due(call + " below", x.set(what, least[what] - 1), BAD_VALUE);
            Check.due(call + " above", x.set(what, most[what] + 1), BAD_VALUE);
            Check.due(call + " states", x.count(13), 2);
            Check.due(call + " is kept", x.set(what, first[what]), least[what]);
            x.undo();
            Check.due(call + " comes back", x.set(what, first[what]), least[what]);
        }
    }

    private static void setWrong() {
        ShardTrails x = new ShardTrails();
        Check.due("what -1", x.set(-1, 1), BAD_VALUE);
        Check.due("what 6", x.set(6, 1), BAD_VALUE);
        Check.due("least what", x.set(Integer.MIN_VALUE, 1), BAD_VALUE);
        Check.due("most what", x.set(Integer.MAX_VALUE, 1), BAD_VALUE);
        Check.due("least value", x.set(0, Integer.MIN_VALUE), BAD_VALUE);
        Check.due("most value", x.set(0, Integer.MAX_VALUE), BAD_VALUE);
    }

    private static void lengthOfSeasons() {
        ShardTrails x = new ShardTrails();
        x.pass(23);
        Check.due("season on day 23 of 5 each", x.count(1), 0);
        x.set(0, 1);
        Check.due("of 1 each", x.count(1), 3);
        x.set(0, 30);
        Check.due("of 30 each", x.count(1), 0);
        x.set(0, 23);
        Check.due("of 23 each", x.count(1), 1);
        Check.due("its latitude", x.count(2), 40);
        x.set(0, 24);
        Check.due("of 24 each", x.count(1), 0);
    }
}
