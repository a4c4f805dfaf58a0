/**
 * All that an object tells, as one text, to see what a call changed. It takes far more than the 512
 * calls that the document promises; the class does not count its calls, so that this changes nothing.
 */
final class Told {
    private Told() {
    }

    /** What it tells of its state, which undo() and restore() bring back. */
    static String state(ShardTrails x) {
        StringBuilder all = new StringBuilder();
        for (int what = 0; what <= 12; what++) {
            add(all, "count", what, x.count(what));
        }
        for (int p = 0; p < x.count(3); p++) {
            for (int what = 0; what <= 8; what++) {
                add(all, "pasture" + p, what, x.pasture(p, what));
            }
            for (int s = 0; s < 16; s++) {
                for (int what = 0; what <= 2; what++) {
                    add(all, "track" + p + "." + s, what, x.track(p, s, what));
                }
            }
        }
        for (int s = 0; s < 16; s++) {
            for (int what = 0; what <= 6; what++) {
                add(all, "shard" + s, what, x.shard(s, what));
            }
            add(all, "movesIn", s, x.movesIn(s));
        }
        for (int key = 0; key < 256; key++) {
            add(all, "value", key, x.value(key));
        }
        for (int r = 0; r < x.count(6); r++) {
            for (int what = 0; what <= 4; what++) {
                add(all, "reader" + r, what, x.reader(r, what));
            }
            for (int s = 0; s < 16; s++) {
                add(all, "remembered" + r, s, x.remembered(r, s));
                for (int what = 0; what <= 4; what++) {
                    add(all, "reach" + r + "." + s, what, x.reach(r, 16 * s, what));
                }
            }
        }
        return all.toString();
    }

    /** What it tells of its state, its history and its text. */
    static String everything(ShardTrails x) {
        return state(x) + "history=" + x.count(13) + " text=" + x.count(14);
    }

    private static void add(StringBuilder all, String name, int number, int value) {
        all.append(name).append('(').append(number).append(")=").append(value).append(' ');
    }
}
