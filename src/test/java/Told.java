import java.util.function.Consumer;

/**
 * All that an object tells behind some calls, its past, as one text. The document promises the
 * answers of 512 calls alone, so that the past is made again, on a new object, for each part of the
 * text: it may take 200 calls.
 */
final class Told {
    private static final int SETTINGS = 6;
    private static final int SEASONS = 4;
    private static final int DAYS_OF_WOLVES = 7;
    private static final int MOST_STATES = 4;

    private Told() {
    }

    /** What it tells of its state, which undo() and restore() bring back. */
    static String state(Consumer<ShardTrails> past) {
        StringBuilder all = new StringBuilder();
        addCounts(all, behind(past));
        addPastures(all, behind(past));
        addTracks(all, behind(past), 0);
        addTracks(all, behind(past), 4);
        addShards(all, behind(past));
        addValues(all, behind(past));
        addReaders(all, behind(past));
        addWays(all, behind(past), 0);
        addWays(all, behind(past), 3);
        return all.toString();
    }

    /** What it tells of its state, its history and its text. */
    static String everything(Consumer<ShardTrails> past) {
        ShardTrails x = behind(past);
        return state(past) + "history=" + x.count(13) + " text=" + x.count(14) + " ";
    }

    /** What shows later, too: the text, the settings, the strides, the history and the snapshot. */
    static String deeply(Consumer<ShardTrails> past) {
        StringBuilder all = new StringBuilder(everything(past));
        addHidden(all, past);
        all.append("readRequests()=").append(behind(past).readRequests()).append(' ');
        all.append(state(past.andThen(ShardTrails::readRequests)));
        Consumer<ShardTrails> undone = past;
        for (int i = 0; i < MOST_STATES; i++) {
            all.append("undo()=").append(behind(undone).undo()).append(' ');
            undone = undone.andThen(ShardTrails::undo);
            all.append(state(undone));
            addHidden(all, undone);
        }
        Consumer<ShardTrails> restored = past.andThen(ShardTrails::restore);
        all.append("restore()=").append(behind(past).restore()).append(' ');
        all.append(state(restored));
        addHidden(all, restored);
        return all.toString();
    }

    private static ShardTrails behind(Consumer<ShardTrails> past) {
        ShardTrails x = new ShardTrails();
        past.accept(x);
        return x;
    }

    private static void addCounts(StringBuilder all, ShardTrails x) {
        for (int what = 0; what <= 12; what++) {
            add(all, "count", what, x.count(what));
        }
        for (int s = 0; s < 16; s++) {
            add(all, "movesIn", s, x.movesIn(s));
        }
    }

    private static void addPastures(StringBuilder all, ShardTrails x) {
        for (int p = 0; p < x.count(3); p++) {
            for (int what = 0; what <= 8; what++) {
                add(all, "pasture" + p, what, x.pasture(p, what));
            }
        }
    }

    private static void addTracks(StringBuilder all, ShardTrails x, int first) {
        for (int p = first; p < Math.min(first + 4, x.count(3)); p++) {
            for (int s = 0; s < 16; s++) {
                for (int what = 0; what <= 2; what++) {
                    add(all, "track" + p + "." + s, what, x.track(p, s, what));
                }
            }
        }
    }

    private static void addShards(StringBuilder all, ShardTrails x) {
        for (int s = 0; s < 16; s++) {
            for (int what = 0; what <= 6; what++) {
                add(all, "shard" + s, what, x.shard(s, what));
            }
        }
    }

    private static void addValues(StringBuilder all, ShardTrails x) {
        for (int key = 0; key < 256; key++) {
            add(all, "value", key, x.value(key));
        }
    }

    private static void addReaders(StringBuilder all, ShardTrails x) {
        for (int r = 0; r < x.count(6); r++) {
            for (int what = 0; what <= 4; what++) {
                add(all, "reader" + r, what, x.reader(r, what));
            }
            for (int s = 0; s < 16; s++) {
                add(all, "remembered" + r, s, x.remembered(r, s));
            }
        }
    }

    private static void addWays(StringBuilder all, ShardTrails x, int first) {
        for (int r = first; r < Math.min(first + 3, x.count(6)); r++) {
            for (int s = 0; s < 16; s++) {
                for (int what = 0; what <= 4; what++) {
                    add(all, "reach" + r + "." + s, what, x.reach(r, 16 * s, what));
                }
            }
        }
    }

    private static void addHidden(StringBuilder all, Consumer<ShardTrails> past) {
        ShardTrails x = behind(past);
        for (int what = 0; what < SETTINGS; what++) {
            add(all, "set", what, x.set(what, 7));
        }
        for (int season = 0; season < SEASONS; season++) {
            add(all, "setSeason", season, x.setSeason(season, 7));
        }
        ShardTrails y = behind(past);
        for (int day = 1; day <= DAYS_OF_WOLVES; day++) {
            add(all, "pass", day, y.pass(1));
            for (int p = 0; p < y.count(3); p++) {
                add(all, "wolves" + p, day, y.pasture(p, 7));
            }
        }
    }

    private static void add(StringBuilder all, String name, int number, int value) {
        all.append(name).append('(').append(number).append(")=").append(value).append(' ');
    }
}
