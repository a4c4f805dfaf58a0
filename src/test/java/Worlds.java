/** Objects with a past, to make calls on. */
final class Worlds {
    private Worlds() {
    }

    static void bare(ShardTrails x) {
    }

    static void type(ShardTrails x, String text) {
        for (char sign : text.toCharArray()) {
            x.type(sign);
        }
    }

    /**
     * No room for more: 8 pastures (2 and 4 with inns; 1 and 6 are full), 3 wolves, 6 readers, a text
     * of 60 characters, 4 states, a snapshot. The shards 0 and 1 are in 1, 2 is in 2, 3 in 3, 15 in 6;
     * tracks are in 0, where a wolf is, and in 2, where another one and an inn are. It is day 2.
     */
    static void full(ShardTrails x) {
        int[] latitudes = {10, 20, 30, 40, 50, 60, 90};
        int[] rooms = {2, 16, 16, 16, 16, 1, 16};
        for (int i = 0; i < latitudes.length; i++) {
            x.addPasture(latitudes[i], rooms[i], i == 1 || i == 3);
        }
        x.set(3, 0);
        for (int home = 0; home < 6; home++) {
            x.addReader(home);
        }
        x.move(0, 1);
        x.move(1, 1);
        x.move(2, 2);
        x.move(3, 2);
        x.move(3, 3);
        x.move(15, 6);
        x.post();
        x.request(4, 40);
        x.keep();
        x.pass(2);
        type(x, "0:0,".repeat(13) + "1:1=2345");
        x.addWolf(0, 1);
        x.addWolf(2, 7);
        x.addWolf(7, 3);
        x.write(0, 3, 33);
    }

    /** Every act is possible: 4 pastures (1 and 3 with inns), 2 wolves, 1 reader, a text, 3 states. */
    static void busy(ShardTrails x) {
        x.addPasture(60, 8, true);
        x.addPasture(30, 8, false);
        x.addPasture(10, 8, true);
        x.addWolf(0, 1);
        x.addWolf(2, 3);
        x.addReader(2);
        x.move(0, 2);
        x.move(0, 1);
        x.move(1, 2);
        x.write(0, 3, 33);
        type(x, "0:17=9,0:40");
        x.undo();
        x.undo();
        x.undo();
        x.write(0, 3, 33);
        x.move(1, 2);
    }

    /** Day 9960, the last one from which 39 days may pass, but not 40; no shard moves by itself. */
    static void day9960(ShardTrails x) {
        x.addPasture(60, 16, true);
        x.set(3, 0);
        for (int i = 0; i < 166; i++) {
            x.pass(60);
        }
    }

    /** The last day. */
    static void day9999(ShardTrails x) {
        day9960(x);
        x.pass(39);
    }
}
