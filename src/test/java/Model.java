import java.util.ArrayDeque;
import java.util.ArrayList;
import java.util.Comparator;
import java.util.Deque;
import java.util.HashMap;
import java.util.List;
import java.util.Map;
import java.util.TreeMap;
import java.util.function.ToIntFunction;
import java.util.regex.Matcher;
import java.util.regex.Pattern;

/**
 * The document once more, in the plainest Java that the library allows and without a look at the
 * class: random runs ask both and compare the answers.
 */
final class Model {
    private static final int UNKNOWN = -1;
    private static final int BAD_VALUE = -2;
    private static final int FULL = -3;
    private static final int NOT_POSSIBLE = -4;
    private static final int NONE = -5;
    private static final Pattern REQUESTS = Pattern.compile(
        "[0-5]:(0|[1-9][0-9]{0,2})(=(0|[1-9][0-9]{0,3}))?(,[0-5]:(0|[1-9][0-9]{0,2})(=(0|[1-9][0-9]{0,3}))?)*");

    /** A call that tells something, and the answer that is due. */
    record Question(String name, ToIntFunction<ShardTrails> call, int due) {
    }

    private record Track(int to, int day) {
    }

    private static final class Pasture {
        int latitude;
        int room;
        boolean inn;
        int sent;
        Map<Integer, Track> tracks = new TreeMap<>();
        Map<Integer, Integer> posted = new HashMap<>();

        Pasture(int latitude, int room, boolean inn) {
            this.latitude = latitude;
            this.room = room;
            this.inn = inn;
        }

        Pasture copy() {
            Pasture copy = new Pasture(latitude, room, inn);
            copy.sent = sent;
            copy.tracks = new TreeMap<>(tracks);
            copy.posted = new HashMap<>(posted);
            return copy;
        }
    }

    private static final class Reader {
        int home;
        int requests;
        int hops;
        int cries;
        int most;
        Map<Integer, Integer> memory = new HashMap<>();

        Reader copy() {
            Reader copy = new Reader();
            copy.home = home;
            copy.requests = requests;
            copy.hops = hops;
            copy.cries = cries;
            copy.most = most;
            copy.memory = new HashMap<>(memory);
            return copy;
        }
    }

    private static final class World {
        int day;
        int cut;
        int overgrown;
        int[] numbers = {5, 10, 10, 4, 3, 20};
        int[] seasons = {60, 40, 20, 40};
        List<Pasture> pastures = new ArrayList<>();
        List<int[]> wolves = new ArrayList<>();
        List<Reader> readers = new ArrayList<>();
        int[] at = new int[16];
        int[] heat = new int[16];
        int[] moves = new int[16];
        int[] values = new int[256];

        World copy() {
            World copy = new World();
            copy.day = day;
            copy.cut = cut;
            copy.overgrown = overgrown;
            copy.numbers = numbers.clone();
            copy.seasons = seasons.clone();
            pastures.forEach(p -> copy.pastures.add(p.copy()));
            wolves.forEach(w -> copy.wolves.add(w.clone()));
            readers.forEach(r -> copy.readers.add(r.copy()));
            copy.at = at.clone();
            copy.heat = heat.clone();
            copy.moves = moves.clone();
            copy.values = values.clone();
            return copy;
        }

        int season() {
            return (day / numbers[0]) % 4;
        }

        int distance(int p) {
            return Math.abs(pastures.get(p).latitude - seasons[season()]);
        }

        int shardsIn(int p) {
            int shards = 0;
            for (int place : at) {
                shards += place == p ? 1 : 0;
            }
            return shards;
        }

        int inns() {
            return (int) pastures.stream().filter(p -> p.inn).count();
        }

        List<Integer> asked() {
            List<Integer> order = new ArrayList<>();
            for (int s = 0; s < 16; s++) {
                order.add(s);
            }
            order.sort(Comparator.comparingInt((Integer s) -> -heat[s]).thenComparingInt(s -> s));
            return order;
        }

        int lookedAt(int s) {
            List<Integer> others = new ArrayList<>();
            for (int p = 0; p < pastures.size(); p++) {
                if (p != at[s] && shardsIn(p) < pastures.get(p).room) {
                    others.add(p);
                }
            }
            return others.stream().min(Comparator.comparingInt(this::distance)).orElse(NONE);
        }

        void go(int s, int p) {
            pastures.get(at[s]).tracks.put(s, new Track(p, day));
            pastures.get(p).tracks.remove(s);
            at[s] = p;
            moves[s]++;
        }

        int cutBy(int wolf) {
            Pasture p = pastures.get(wolves.get(wolf)[0]);
            int gone = p.inn ? 0 : p.tracks.size();
            if (!p.inn) {
                p.tracks.clear();
            }
            cut += gone;
            return gone;
        }

        void post() {
            for (Pasture p : pastures) {
                if (p.inn) {
                    for (int s = 0; s < 16; s++) {
                        p.posted.put(s, at[s]);
                    }
                }
            }
        }

        int passDay() {
            for (int s = 0; s < 16; s++) {
                heat[s] = heat[s] * 3 / 4;
            }
            for (int w = 0; w < wolves.size(); w++) {
                wolves.get(w)[0] = (wolves.get(w)[0] + wolves.get(w)[1]) % pastures.size();
                cutBy(w);
            }
            for (Pasture p : pastures) {
                if (!p.inn) {
                    int before = p.tracks.size();
                    p.tracks.values().removeIf(t -> day - t.day() >= numbers[1]);
                    overgrown += before - p.tracks.size();
                }
            }
            int moved = 0;
            for (int s : asked()) {
                int to = lookedAt(s);
                if (moved < numbers[3] && to != NONE && distance(at[s]) - distance(to) >= numbers[2]) {
                    go(s, to);
                    moved++;
                }
            }
            if ((day + 1) % numbers[4] == 0) {
                post();
            }
            day++;
            return moved;
        }
    }

    private static final class Journey {
        int hops;
        int tracks;
        int cry;
        List<Integer> asked = new ArrayList<>();
        List<Integer> sent = new ArrayList<>();
        List<Integer> way = new ArrayList<>();
    }

    private World world = new World();
    private World kept;
    private final Deque<World> history = new ArrayDeque<>();
    private String text = "";

    Model() {
        world.pastures.add(new Pasture(0, 16, false));
    }

    private void record() {
        history.addLast(world.copy());
        if (history.size() > 4) {
            history.removeFirst();
        }
    }

    private boolean noPasture(int p) {
        return p < 0 || p >= world.pastures.size();
    }

    private boolean noReader(int r) {
        return r < 0 || r >= world.readers.size();
    }

    private static boolean noShard(int s) {
        return s < 0 || s > 15;
    }

    private static boolean noKey(int k) {
        return k < 0 || k > 255;
    }

    int addPasture(int latitude, int room, boolean inn) {
        if (latitude < 0 || latitude > 90 || room < 1 || room > 16) {
            return BAD_VALUE;
        }
        if (world.pastures.size() == 8) {
            return FULL;
        }
        record();
        world.pastures.add(new Pasture(latitude, room, inn));
        return world.pastures.size() - 1;
    }

    int setRoom(int p, int room) {
        if (noPasture(p)) {
            return UNKNOWN;
        }
        if (room < 1 || room > 16) {
            return BAD_VALUE;
        }
        if (world.shardsIn(p) > room) {
            return NOT_POSSIBLE;
        }
        int previous = world.pastures.get(p).room;
        if (previous == room) {
            return NONE;
        }
        record();
        world.pastures.get(p).room = room;
        return previous;
    }

    int setInn(int p, boolean open) {
        if (noPasture(p)) {
            return UNKNOWN;
        }
        if (world.pastures.get(p).inn == open) {
            return NONE;
        }
        record();
        world.pastures.get(p).inn = open;
        world.pastures.get(p).posted.clear();
        return world.inns();
    }

    int addWolf(int p, int stride) {
        if (noPasture(p)) {
            return UNKNOWN;
        }
        if (stride < 1 || stride > 7) {
            return BAD_VALUE;
        }
        if (world.wolves.size() == 3) {
            return FULL;
        }
        record();
        world.wolves.add(new int[] {p, stride});
        return world.wolves.size() - 1;
    }

    int driveWolf() {
        if (world.wolves.isEmpty()) {
            return NONE;
        }
        record();
        world.wolves.remove(world.wolves.size() - 1);
        return world.wolves.size();
    }

    int addReader(int home) {
        if (noPasture(home)) {
            return UNKNOWN;
        }
        if (world.readers.size() == 6) {
            return FULL;
        }
        record();
        Reader reader = new Reader();
        reader.home = home;
        world.readers.add(reader);
        return world.readers.size() - 1;
    }

    int setSeason(int season, int latitude) {
        if (season < 0 || season > 3 || latitude < 0 || latitude > 90) {
            return BAD_VALUE;
        }
        int previous = world.seasons[season];
        if (previous == latitude) {
            return NONE;
        }
        record();
        world.seasons[season] = latitude;
        return previous;
    }

    int set(int what, int value) {
        int[][] bounds = {{1, 30}, {1, 60}, {1, 90}, {0, 16}, {1, 30}, {0, 100}};
        if (what < 0 || what > 5 || value < bounds[what][0] || value > bounds[what][1]) {
            return BAD_VALUE;
        }
        int previous = world.numbers[what];
        if (previous == value) {
            return NONE;
        }
        record();
        world.numbers[what] = value;
        return previous;
    }

    int pass(int days) {
        if (days < 1 || days > 60) {
            return BAD_VALUE;
        }
        if (world.day + days > 9999) {
            return NOT_POSSIBLE;
        }
        record();
        int moved = 0;
        for (int i = 0; i < days; i++) {
            moved += world.passDay();
        }
        return moved;
    }

    int move(int s, int p) {
        if (noShard(s) || noPasture(p)) {
            return UNKNOWN;
        }
        int from = world.at[s];
        if (from != p && world.shardsIn(p) >= world.pastures.get(p).room) {
            return FULL;
        }
        if (from == p) {
            return NONE;
        }
        record();
        world.go(s, p);
        return from;
    }

    int post() {
        if (world.inns() == 0) {
            return NONE;
        }
        record();
        world.post();
        return world.inns();
    }

    int cut(int w) {
        if (w < 0 || w >= world.wolves.size()) {
            return UNKNOWN;
        }
        World before = world.copy();
        int gone = world.cutBy(w);
        if (gone == 0) {
            return NONE;
        }
        World after = world;
        world = before;
        record();
        world = after;
        return gone;
    }

    private Journey journey(int r, int s) {
        Journey j = new Journey();
        Reader reader = world.readers.get(r);
        int here = reader.memory.getOrDefault(s, reader.home);
        j.way.add(here);
        while (here != world.at[s]) {
            Pasture p = world.pastures.get(here);
            int at = here;
            if (p.tracks.containsKey(s)) {
                here = p.tracks.get(s).to();
                j.tracks++;
                j.hops++;
            } else if (p.inn && !j.asked.contains(here) && p.posted.getOrDefault(s, here) != here) {
                j.asked.add(here);
                here = p.posted.get(s);
                j.hops++;
            } else {
                List<Integer> inns = new ArrayList<>();
                for (int i = 0; i < world.pastures.size(); i++) {
                    if (i != at && world.pastures.get(i).inn && !j.sent.contains(i) && !j.asked.contains(i)) {
                        inns.add(i);
                    }
                }
                if (inns.isEmpty()) {
                    j.cry = 1;
                    j.hops += world.pastures.size();
                    here = world.at[s];
                } else {
                    inns.sort(Comparator.comparingInt(
                        (Integer i) -> Math.abs(world.pastures.get(i).latitude - p.latitude)));
                    here = inns.get(0);
                    j.sent.add(here);
                    j.hops++;
                }
            }
            j.way.add(here);
        }
        return j;
    }

    private int serve(int r, int key, int value) {
        int s = key / 16;
        Journey j = journey(r, s);
        Reader reader = world.readers.get(r);
        reader.memory.put(s, world.at[s]);
        reader.requests++;
        reader.hops += j.hops;
        reader.cries += j.cry;
        reader.most = Math.max(reader.most, j.hops);
        world.heat[s] = Math.min(9999, world.heat[s] + world.numbers[5]);
        j.sent.forEach(p -> world.pastures.get(p).sent++);
        if (value >= 0) {
            world.values[key] = value;
        }
        return j.hops;
    }

    int request(int r, int key) {
        if (noReader(r) || noKey(key)) {
            return UNKNOWN;
        }
        record();
        return serve(r, key, -1);
    }

    int write(int r, int key, int value) {
        if (noReader(r) || noKey(key)) {
            return UNKNOWN;
        }
        if (value < 0 || value > 9999) {
            return BAD_VALUE;
        }
        record();
        return serve(r, key, value);
    }

    int type(char character) {
        if (text.length() == 60) {
            return FULL;
        }
        text += character;
        return text.length();
    }

    int clearText() {
        int length = text.length();
        text = "";
        return length;
    }

    /** The length of the longest beginning of the text that some text of requests begins with. */
    private int longestBeginning() {
        for (int length = text.length(); length > 0; length--) {
            Matcher matcher = REQUESTS.matcher(text.substring(0, length));
            if (matcher.matches() || matcher.hitEnd()) {
                return length;
            }
        }
        return 0;
    }

    int readRequests() {
        if (!REQUESTS.matcher(text).matches()) {
            return -100 - longestBeginning();
        }
        String[] requests = text.split(",");
        for (String request : requests) {
            String[] parts = request.split("[:=]");
            if (noReader(Integer.parseInt(parts[0])) || noKey(Integer.parseInt(parts[1]))) {
                return UNKNOWN;
            }
        }
        record();
        int hops = 0;
        for (String request : requests) {
            String[] parts = request.split("[:=]");
            int value = parts.length > 2 ? Integer.parseInt(parts[2]) : -1;
            hops += serve(Integer.parseInt(parts[0]), Integer.parseInt(parts[1]), value);
        }
        return hops;
    }

    int undo() {
        if (history.isEmpty()) {
            return NONE;
        }
        world = history.removeLast();
        return history.size();
    }

    int keep() {
        kept = world.copy();
        return world.day;
    }

    int restore() {
        if (kept == null) {
            return NONE;
        }
        record();
        world = kept.copy();
        return world.day;
    }

    int pasture(int p, int what) {
        if (noPasture(p)) {
            return UNKNOWN;
        }
        Pasture it = world.pastures.get(p);
        int heat = 0;
        for (int s = 0; s < 16; s++) {
            heat += world.at[s] == p ? world.heat[s] : 0;
        }
        int wolves = (int) world.wolves.stream().filter(w -> w[0] == p).count();
        int[] told = {it.latitude, it.room, it.inn ? 1 : 0, world.shardsIn(p), it.tracks.size(),
            world.distance(p), heat, wolves, it.sent};
        return tell(told, what);
    }

    private static int tell(int[] told, int what) {
        return what < 0 || what >= told.length ? BAD_VALUE : told[what];
    }

    int track(int p, int s, int what) {
        if (noPasture(p) || noShard(s)) {
            return UNKNOWN;
        }
        Pasture it = world.pastures.get(p);
        Track track = it.tracks.getOrDefault(s, new Track(NONE, NONE));
        return tell(new int[] {track.to(), track.day(), it.posted.getOrDefault(s, NONE)}, what);
    }

    int shard(int s, int what) {
        if (noShard(s)) {
            return UNKNOWN;
        }
        int tracks = (int) world.pastures.stream().filter(p -> p.tracks.containsKey(s)).count();
        int sum = 0;
        for (int key = 0; key < 256; key++) {
            sum += key / 16 == s ? world.values[key] : 0;
        }
        int[] told = {world.at[s], world.heat[s], world.moves[s], tracks, world.asked().indexOf(s),
            world.lookedAt(s), sum};
        return tell(told, what);
    }

    int value(int key) {
        return noKey(key) ? UNKNOWN : world.values[key];
    }

    int reader(int r, int what) {
        if (noReader(r)) {
            return UNKNOWN;
        }
        Reader it = world.readers.get(r);
        return tell(new int[] {it.home, it.requests, it.hops, it.cries, it.most}, what);
    }

    int remembered(int r, int s) {
        if (noReader(r) || noShard(s)) {
            return UNKNOWN;
        }
        return world.readers.get(r).memory.getOrDefault(s, world.readers.get(r).home);
    }

    int reach(int r, int key, int what) {
        if (noReader(r) || noKey(key)) {
            return UNKNOWN;
        }
        Journey j = journey(r, key / 16);
        return tell(new int[] {j.hops, j.tracks, j.asked.size(), j.sent.size(), j.cry}, what);
    }

    int way(int r, int key, int place) {
        if (noReader(r) || noKey(key)) {
            return UNKNOWN;
        }
        if (place < 0) {
            return BAD_VALUE;
        }
        List<Integer> way = journey(r, key / 16).way;
        return place < way.size() ? way.get(place) : NONE;
    }

    int movesIn(int s) {
        if (noShard(s)) {
            return UNKNOWN;
        }
        World later = world.copy();
        for (int days = 1; days <= 60; days++) {
            later.passDay();
            if (later.moves[s] > world.moves[s]) {
                return days;
            }
        }
        return NONE;
    }

    int count(int what) {
        int tracks = 0;
        for (Pasture p : world.pastures) {
            tracks += p.tracks.size();
        }
        int moves = 0;
        for (int m : world.moves) {
            moves += m;
        }
        int requests = 0;
        int cries = 0;
        for (Reader r : world.readers) {
            requests += r.requests;
            cries += r.cries;
        }
        int[] told = {world.day, world.season(), world.seasons[world.season()], world.pastures.size(),
            world.inns(), world.wolves.size(), world.readers.size(), tracks, moves, world.cut,
            world.overgrown, requests, cries, history.size(), text.length()};
        return tell(told, what);
    }

    /** All that can be told now, with the answers that are due. */
    List<Question> questions() {
        List<Question> all = new ArrayList<>();
        for (int i = 0; i <= 14; i++) {
            int what = i;
            all.add(new Question("count(" + what + ")", x -> x.count(what), count(what)));
        }
        for (int i = 0; i < world.pastures.size(); i++) {
            addPasture(all, i);
        }
        for (int i = 0; i < 16; i++) {
            addShard(all, i);
        }
        for (int i = 0; i < world.readers.size(); i++) {
            addReader(all, i);
        }
        return all;
    }

    private void addPasture(List<Question> all, int p) {
        for (int i = 0; i <= 8; i++) {
            int what = i;
            all.add(new Question("pasture(" + p + ", " + what + ")", x -> x.pasture(p, what), pasture(p, what)));
        }
        for (int i = 0; i < 16 * 3; i++) {
            int s = i / 3;
            int what = i % 3;
            all.add(new Question("track(" + p + ", " + s + ", " + what + ")",
                x -> x.track(p, s, what), track(p, s, what)));
        }
    }

    private void addShard(List<Question> all, int s) {
        for (int i = 0; i <= 6; i++) {
            int what = i;
            all.add(new Question("shard(" + s + ", " + what + ")", x -> x.shard(s, what), shard(s, what)));
        }
    }

    private void addReader(List<Question> all, int r) {
        for (int i = 0; i <= 4; i++) {
            int what = i;
            all.add(new Question("reader(" + r + ", " + what + ")", x -> x.reader(r, what), reader(r, what)));
        }
        for (int i = 0; i < 16; i++) {
            int s = i;
            all.add(new Question("remembered(" + r + ", " + s + ")", x -> x.remembered(r, s), remembered(r, s)));
        }
        for (int i = 0; i < 16 * 5; i++) {
            int key = 16 * (i / 5);
            int what = i % 5;
            all.add(new Question("reach(" + r + ", " + key + ", " + what + ")",
                x -> x.reach(r, key, what), reach(r, key, what)));
        }
    }
}
