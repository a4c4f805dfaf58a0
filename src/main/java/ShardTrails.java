import java.util.Arrays;

/**
 * Shards of keys that migrate with the seasons, the tracks that they leave, and the readers who
 * look for them. What each call promises stands in DOC.md.
 *
 * <p>Every row is made in a constructor and used again: a call makes no object.
 */
public final class ShardTrails {
    public static final int UNKNOWN = -1;
    public static final int BAD_VALUE = -2;
    public static final int FULL = -3;
    public static final int NOT_POSSIBLE = -4;
    public static final int NONE = -5;

    private static final int MOST_PASTURES = 8;
    private static final int MOST_WOLVES = 3;
    private static final int MOST_READERS = 6;
    private static final int MOST_STATES = 4;
    private static final int SHARDS = 16;
    private static final int KEYS_OF_SHARD = 16;
    private static final int KEYS = SHARDS * KEYS_OF_SHARD;
    private static final int SEASONS = 4;

    private static final int MOST_LATITUDE = 90;
    private static final int MOST_ROOM = 16;
    private static final int MOST_STRIDE = 7;
    private static final int MOST_VALUE = 9999;
    private static final int MOST_HEAT = 9999;
    private static final int LAST_DAY = 9999;
    private static final int MOST_DAYS = 60;

    private static final int LONGEST_TEXT = 60;
    // The shortest request and its "," take four characters; a text that ends in "," asks for one more.
    private static final int MOST_REQUESTS = LONGEST_TEXT / 4 + 1;
    private static final int NO_FAULT = -1;
    private static final int NO_VALUE = -1;
    private static final int FAULT_BASE = -100;

    // Each inn is asked at most once and sent to at most once, and between two of these hops
    // tracks lead through a pasture at most once, for a track is never older than the one before it.
    private static final int LONGEST_WAY = (2 * MOST_PASTURES + 1) * MOST_PASTURES + 1;

    private static final int SEASON_LENGTH = 0;
    private static final int TRACK_LIFE = 1;
    private static final int MARGIN = 2;
    private static final int DROVERS = 3;
    private static final int POST_DAYS = 4;
    private static final int WARMTH = 5;
    private static final int[] LEAST_NUMBERS = {1, 1, 1, 0, 1, 0};
    private static final int[] MOST_NUMBERS = {30, 60, 90, 16, 30, 100};
    private static final int[] FIRST_NUMBERS = {5, 10, 10, 4, 3, 20};
    private static final int[] FIRST_LATITUDES = {60, 40, 20, 40};

    private final State state;
    private final State trial;
    private final State snapshot;
    private final History history;
    private final Route route;
    private final RequestText text;
    private boolean hasSnapshot;

    public ShardTrails() {
        state = new State();
        trial = new State();
        snapshot = new State();
        history = new History();
        route = new Route();
        text = new RequestText();
    }

    // ---- pastures, wolves, readers

    public int addPasture(int latitude, int room, boolean inn) {
        if (!isWithin(latitude, 0, MOST_LATITUDE) || !isWithin(room, 1, MOST_ROOM)) {
            return BAD_VALUE;
        }
        if (state.land.number >= MOST_PASTURES) {
            return FULL;
        }
        history.store(state);
        return state.land.found(latitude, room, inn);
    }

    public int setRoom(int pasture, int room) {
        if (!isPasture(pasture)) {
            return UNKNOWN;
        }
        if (!isWithin(room, 1, MOST_ROOM)) {
            return BAD_VALUE;
        }
        if (state.land.herdSize[pasture] > room) {
            return NOT_POSSIBLE;
        }
        int previous = state.land.room[pasture];
        if (previous == room) {
            return NONE;
        }
        history.store(state);
        state.land.room[pasture] = room;
        return previous;
    }

    public int setInn(int pasture, boolean open) {
        if (!isPasture(pasture)) {
            return UNKNOWN;
        }
        if (state.land.inn[pasture] == open) {
            return NONE;
        }
        history.store(state);
        state.land.inn[pasture] = open;
        state.land.forgetPosted(pasture);
        return state.land.inns();
    }

    public int addWolf(int pasture, int stride) {
        if (!isPasture(pasture)) {
            return UNKNOWN;
        }
        if (!isWithin(stride, 1, MOST_STRIDE)) {
            return BAD_VALUE;
        }
        if (state.pack.number >= MOST_WOLVES) {
            return FULL;
        }
        history.store(state);
        return state.pack.join(pasture, stride);
    }

    public int driveWolf() {
        if (state.pack.number < 1) {
            return NONE;
        }
        history.store(state);
        state.pack.number--;
        return state.pack.number;
    }

    public int addReader(int home) {
        if (!isPasture(home)) {
            return UNKNOWN;
        }
        if (state.readers.number >= MOST_READERS) {
            return FULL;
        }
        history.store(state);
        return state.readers.join(home);
    }

    // ---- settings

    public int setSeason(int season, int latitude) {
        if (!isWithin(season, 0, SEASONS - 1) || !isWithin(latitude, 0, MOST_LATITUDE)) {
            return BAD_VALUE;
        }
        int previous = state.latitudes[season];
        if (previous == latitude) {
            return NONE;
        }
        history.store(state);
        state.latitudes[season] = latitude;
        return previous;
    }

    public int set(int what, int value) {
        if (!isWithin(what, SEASON_LENGTH, WARMTH)) {
            return BAD_VALUE;
        }
        if (!isWithin(value, LEAST_NUMBERS[what], MOST_NUMBERS[what])) {
            return BAD_VALUE;
        }
        int previous = state.numbers[what];
        if (previous == value) {
            return NONE;
        }
        history.store(state);
        state.numbers[what] = value;
        return previous;
    }

    // ---- what happens

    public int pass(int days) {
        if (!isWithin(days, 1, MOST_DAYS)) {
            return BAD_VALUE;
        }
        if (state.day + days > LAST_DAY) {
            return NOT_POSSIBLE;
        }
        history.store(state);
        int moved = 0;
        for (int passed = 0; passed < days; passed++) {
            moved += state.passDay();
        }
        return moved;
    }

    public int move(int shard, int pasture) {
        if (!isShard(shard) || !isPasture(pasture)) {
            return UNKNOWN;
        }
        int previous = state.herd.at[shard];
        if (previous == pasture) {
            return NONE;
        }
        if (!state.land.hasRoom(pasture)) {
            return FULL;
        }
        history.store(state);
        state.drive(shard, pasture);
        return previous;
    }

    public int post() {
        int inns = state.land.inns();
        if (inns < 1) {
            return NONE;
        }
        history.store(state);
        state.letInnsPost();
        return inns;
    }

    public int cut(int wolf) {
        if (!isWithin(wolf, 0, state.pack.number - 1)) {
            return UNKNOWN;
        }
        if (state.tracksInReach(wolf) < 1) {
            return NONE;
        }
        history.store(state);
        return state.letWolfCut(wolf);
    }

    public int request(int reader, int key) {
        if (!isReader(reader) || !isKey(key)) {
            return UNKNOWN;
        }
        history.store(state);
        return serve(reader, key, NO_VALUE);
    }

    public int write(int reader, int key, int value) {
        if (!isReader(reader) || !isKey(key)) {
            return UNKNOWN;
        }
        if (!isWithin(value, 0, MOST_VALUE)) {
            return BAD_VALUE;
        }
        history.store(state);
        return serve(reader, key, value);
    }

    // ---- texts

    public int type(char character) {
        if (text.length >= LONGEST_TEXT) {
            return FULL;
        }
        text.append(character);
        return text.length;
    }

    public int clearText() {
        int previous = text.length;
        text.length = 0;
        return previous;
    }

    public int readRequests() {
        int fault = text.parse();
        if (fault != NO_FAULT) {
            return FAULT_BASE - fault;
        }
        for (int i = 0; i < text.number; i++) {
            if (!isReader(text.readers[i]) || !isKey(text.keys[i])) {
                return UNKNOWN;
            }
        }
        history.store(state);
        int hops = 0;
        for (int i = 0; i < text.number; i++) {
            hops += serve(text.readers[i], text.keys[i], text.values[i]);
        }
        return hops;
    }

    // ---- history

    public int undo() {
        if (history.number < 1) {
            return NONE;
        }
        history.takeBack(state);
        return history.number;
    }

    public int keep() {
        snapshot.copyFrom(state);
        hasSnapshot = true;
        return state.day;
    }

    public int restore() {
        if (!hasSnapshot) {
            return NONE;
        }
        history.store(state);
        state.copyFrom(snapshot);
        return state.day;
    }

    // ---- what is told

    public int pasture(int pasture, int what) {
        if (!isPasture(pasture)) {
            return UNKNOWN;
        }
        switch (what) {
            case 0:
                return state.land.latitude[pasture];
            case 1:
                return state.land.room[pasture];
            case 2:
                return state.land.inn[pasture] ? 1 : 0;
            case 3:
                return state.land.herdSize[pasture];
            case 4:
                return state.tracks.countIn(pasture);
            case 5:
                return state.land.distance(pasture, state.seasonLatitude());
            case 6:
                return state.herd.heatIn(pasture);
            case 7:
                return state.pack.countIn(pasture);
            case 8:
                return state.land.sentTo[pasture];
            default:
                return BAD_VALUE;
        }
    }

    public int track(int pasture, int shard, int what) {
        if (!isPasture(pasture) || !isShard(shard)) {
            return UNKNOWN;
        }
        switch (what) {
            case 0:
                return state.tracks.leadsTo[cell(pasture, shard)];
            case 1:
                return state.tracks.isAt(pasture, shard) ? state.tracks.leftOn[cell(pasture, shard)] : NONE;
            case 2:
                return state.land.posted[cell(pasture, shard)];
            default:
                return BAD_VALUE;
        }
    }

    public int shard(int shard, int what) {
        if (!isShard(shard)) {
            return UNKNOWN;
        }
        switch (what) {
            case 0:
                return state.herd.at[shard];
            case 1:
                return state.herd.heat[shard];
            case 2:
                return state.herd.moves[shard];
            case 3:
                return state.tracks.countOf(shard);
            case 4:
                return state.herd.placeByHeat(shard);
            case 5:
                return state.land.bestOther(state.herd.at[shard], state.seasonLatitude());
            case 6:
                return state.herd.sumOfValues(shard);
            default:
                return BAD_VALUE;
        }
    }

    public int value(int key) {
        return isKey(key) ? state.herd.values[key] : UNKNOWN;
    }

    public int reader(int reader, int what) {
        if (!isReader(reader)) {
            return UNKNOWN;
        }
        switch (what) {
            case 0:
                return state.readers.home[reader];
            case 1:
                return state.readers.requests[reader];
            case 2:
                return state.readers.hops[reader];
            case 3:
                return state.readers.cries[reader];
            case 4:
                return state.readers.mostHops[reader];
            default:
                return BAD_VALUE;
        }
    }

    public int remembered(int reader, int shard) {
        if (!isReader(reader) || !isShard(shard)) {
            return UNKNOWN;
        }
        return state.readers.memory[cell(reader, shard)];
    }

    public int reach(int reader, int key, int what) {
        if (!isReader(reader) || !isKey(key)) {
            return UNKNOWN;
        }
        route.find(state, reader, key / KEYS_OF_SHARD);
        switch (what) {
            case 0:
                return route.hops;
            case 1:
                return route.followed;
            case 2:
                return route.askedInns;
            case 3:
                return route.sentInns;
            case 4:
                return route.cried ? 1 : 0;
            default:
                return BAD_VALUE;
        }
    }

    public int way(int reader, int key, int place) {
        if (!isReader(reader) || !isKey(key)) {
            return UNKNOWN;
        }
        if (place < 0) {
            return BAD_VALUE;
        }
        route.find(state, reader, key / KEYS_OF_SHARD);
        return place < route.length ? route.places[place] : NONE;
    }

    public int movesIn(int shard) {
        if (!isShard(shard)) {
            return UNKNOWN;
        }
        trial.copyFrom(state);
        int before = trial.herd.moves[shard];
        for (int days = 1; days <= MOST_DAYS; days++) {
            trial.passDayOfHerd();
            if (trial.herd.moves[shard] != before) {
                return days;
            }
        }
        return NONE;
    }

    public int count(int what) {
        switch (what) {
            case 0:
                return state.day;
            case 1:
                return state.season();
            case 2:
                return state.seasonLatitude();
            case 3:
                return state.land.number;
            case 4:
                return state.land.inns();
            case 5:
                return state.pack.number;
            case 6:
                return state.readers.number;
            case 7:
                return state.tracks.countAll();
            case 8:
                return sum(state.herd.moves, SHARDS);
            case 9:
                return state.cutTracks;
            case 10:
                return state.overgrownTracks;
            case 11:
                return sum(state.readers.requests, state.readers.number);
            case 12:
                return sum(state.readers.cries, state.readers.number);
            case 13:
                return history.number;
            case 14:
                return text.length;
            default:
                return BAD_VALUE;
        }
    }

    // ---- helpers

    /** Lets a reader reach a key, and gives it a value unless that is NO_VALUE; the hops. */
    private int serve(int reader, int key, int value) {
        int shard = key / KEYS_OF_SHARD;
        route.find(state, reader, shard);
        state.noteRequest(reader, shard, route);
        if (value != NO_VALUE) {
            state.herd.values[key] = value;
        }
        return route.hops;
    }

    private boolean isPasture(int number) {
        return isWithin(number, 0, state.land.number - 1);
    }

    private boolean isReader(int number) {
        return isWithin(number, 0, state.readers.number - 1);
    }

    private static boolean isShard(int number) {
        return isWithin(number, 0, SHARDS - 1);
    }

    private static boolean isKey(int number) {
        return isWithin(number, 0, KEYS - 1);
    }

    private static boolean isWithin(int number, int least, int most) {
        return number >= least && number <= most;
    }

    /** The index of a shard in a row that holds all shards for each pasture, or for each reader. */
    private static int cell(int owner, int shard) {
        return owner * SHARDS + shard;
    }

    private static int sum(int[] row, int length) {
        int sum = 0;
        for (int i = 0; i < length && i < row.length; i++) {
            sum += row[i];
        }
        return sum;
    }

    /** Both rows have the same length, for they are the same row of two states. */
    private static void copyRow(int[] from, int[] to) {
        System.arraycopy(from, 0, to, 0, Math.min(from.length, to.length));
    }

    /** The pastures, and what their inns have posted. */
    private static final class Land {
        int number;
        final int[] latitude = new int[MOST_PASTURES];
        final int[] room = new int[MOST_PASTURES];
        final int[] herdSize = new int[MOST_PASTURES];
        final int[] sentTo = new int[MOST_PASTURES];
        final boolean[] inn = new boolean[MOST_PASTURES];
        final int[] posted = new int[MOST_PASTURES * SHARDS];

        Land() {
            Arrays.fill(posted, NONE);
            number = 1;
            room[0] = MOST_ROOM;
            herdSize[0] = SHARDS;
        }

        void copyFrom(Land other) {
            number = other.number;
            copyRow(other.latitude, latitude);
            copyRow(other.room, room);
            copyRow(other.herdSize, herdSize);
            copyRow(other.sentTo, sentTo);
            copyRow(other.posted, posted);
            for (int p = 0; p < MOST_PASTURES; p++) {
                inn[p] = other.inn[p];
            }
        }

        int found(int latitudeThere, int roomThere, boolean innThere) {
            int p = number;
            latitude[p] = latitudeThere;
            room[p] = roomThere;
            inn[p] = innThere;
            number++;
            return p;
        }

        int inns() {
            int inns = 0;
            for (int p = 0; p < number; p++) {
                if (inn[p]) {
                    inns++;
                }
            }
            return inns;
        }

        boolean hasRoom(int p) {
            return herdSize[p] < room[p];
        }

        int distance(int p, int toLatitude) {
            return Math.abs(latitude[p] - toLatitude);
        }

        void forgetPosted(int p) {
            for (int s = 0; s < SHARDS; s++) {
                posted[cell(p, s)] = NONE;
            }
        }

        void tellAll(int[] places) {
            for (int p = 0; p < number; p++) {
                if (inn[p]) {
                    System.arraycopy(places, 0, posted, cell(p, 0), SHARDS);
                }
            }
        }

        /** Of the other pastures with room, the one that is nearest to a season's latitude. */
        int bestOther(int home, int toLatitude) {
            int best = NONE;
            int least = MOST_LATITUDE + 1;
            for (int p = 0; p < number; p++) {
                if (p != home && hasRoom(p) && distance(p, toLatitude) < least) {
                    best = p;
                    least = distance(p, toLatitude);
                }
            }
            return best;
        }
    }

    /** The tracks: for each pasture and shard at most one. */
    private static final class Tracks {
        final int[] leadsTo = new int[MOST_PASTURES * SHARDS];
        final int[] leftOn = new int[MOST_PASTURES * SHARDS];

        Tracks() {
            Arrays.fill(leadsTo, NONE);
        }

        void copyFrom(Tracks other) {
            copyRow(other.leadsTo, leadsTo);
            copyRow(other.leftOn, leftOn);
        }

        boolean isAt(int p, int s) {
            return leadsTo[cell(p, s)] != NONE;
        }

        void leave(int s, int from, int to, int day) {
            leadsTo[cell(from, s)] = to;
            leftOn[cell(from, s)] = day;
            leadsTo[cell(to, s)] = NONE;
        }

        /** Takes away the tracks in a pasture that were left on this day or before it; how many. */
        int removeLeftUntil(int day, int p) {
            int gone = 0;
            for (int s = 0; s < SHARDS; s++) {
                if (isAt(p, s) && leftOn[cell(p, s)] <= day) {
                    leadsTo[cell(p, s)] = NONE;
                    gone++;
                }
            }
            return gone;
        }

        int countIn(int p) {
            int number = 0;
            for (int s = 0; s < SHARDS; s++) {
                if (isAt(p, s)) {
                    number++;
                }
            }
            return number;
        }

        int countOf(int s) {
            int number = 0;
            for (int p = 0; p < MOST_PASTURES; p++) {
                if (isAt(p, s)) {
                    number++;
                }
            }
            return number;
        }

        int countAll() {
            int number = 0;
            for (int p = 0; p < MOST_PASTURES; p++) {
                number += countIn(p);
            }
            return number;
        }
    }

    /** The shards and the values of their keys. */
    private static final class Herd {
        final int[] at = new int[SHARDS];
        final int[] heat = new int[SHARDS];
        final int[] moves = new int[SHARDS];
        final int[] values = new int[KEYS];

        void copyFrom(Herd other) {
            copyRow(other.at, at);
            copyRow(other.heat, heat);
            copyRow(other.moves, moves);
            copyRow(other.values, values);
        }

        void cool() {
            for (int s = 0; s < SHARDS; s++) {
                heat[s] = heat[s] * 3 / 4;
            }
        }

        void warm(int s, int warmth) {
            heat[s] = Math.min(heat[s] + warmth, MOST_HEAT);
        }

        boolean isAskedBefore(int s, int other) {
            return heat[s] > heat[other] || heat[s] == heat[other] && s < other;
        }

        int placeByHeat(int s) {
            int place = 0;
            for (int other = 0; other < SHARDS; other++) {
                if (isAskedBefore(other, s)) {
                    place++;
                }
            }
            return place;
        }

        /** Puts the shards into a row in the order in which they are asked. */
        void sortByHeat(int[] order) {
            for (int s = 0; s < SHARDS; s++) {
                int place = s;
                while (place > 0 && isAskedBefore(s, order[place - 1])) {
                    order[place] = order[place - 1];
                    place--;
                }
                order[place] = s;
            }
        }

        int heatIn(int p) {
            int sum = 0;
            for (int s = 0; s < SHARDS; s++) {
                if (at[s] == p) {
                    sum += heat[s];
                }
            }
            return sum;
        }

        int sumOfValues(int s) {
            int sum = 0;
            for (int k = 0; k < KEYS_OF_SHARD; k++) {
                sum += values[s * KEYS_OF_SHARD + k];
            }
            return sum;
        }
    }

    /** The wolves. */
    private static final class Pack {
        int number;
        final int[] at = new int[MOST_WOLVES];
        final int[] stride = new int[MOST_WOLVES];

        void copyFrom(Pack other) {
            number = other.number;
            copyRow(other.at, at);
            copyRow(other.stride, stride);
        }

        int join(int p, int strideOfIt) {
            int wolf = number;
            at[wolf] = p;
            stride[wolf] = strideOfIt;
            number++;
            return wolf;
        }

        void advance(int wolf, int pastures) {
            if (pastures > 0) {
                at[wolf] = (at[wolf] + stride[wolf]) % pastures;
            }
        }

        int countIn(int p) {
            int wolves = 0;
            for (int w = 0; w < number; w++) {
                if (at[w] == p) {
                    wolves++;
                }
            }
            return wolves;
        }
    }

    /** The readers, and where they found each shard last. */
    private static final class Readers {
        int number;
        final int[] home = new int[MOST_READERS];
        final int[] requests = new int[MOST_READERS];
        final int[] hops = new int[MOST_READERS];
        final int[] cries = new int[MOST_READERS];
        final int[] mostHops = new int[MOST_READERS];
        final int[] memory = new int[MOST_READERS * SHARDS];

        void copyFrom(Readers other) {
            number = other.number;
            copyRow(other.home, home);
            copyRow(other.requests, requests);
            copyRow(other.hops, hops);
            copyRow(other.cries, cries);
            copyRow(other.mostHops, mostHops);
            copyRow(other.memory, memory);
        }

        int join(int homeOfIt) {
            int reader = number;
            home[reader] = homeOfIt;
            for (int s = 0; s < SHARDS; s++) {
                memory[cell(reader, s)] = homeOfIt;
            }
            number++;
            return reader;
        }

        void note(int reader, int s, int foundAt, Route route) {
            requests[reader]++;
            hops[reader] += route.hops;
            if (route.cried) {
                cries[reader]++;
            }
            mostHops[reader] = Math.max(mostHops[reader], route.hops);
            memory[cell(reader, s)] = foundAt;
        }
    }

    /** All that undo() and restore() bring back. */
    private static final class State {
        int day;
        int cutTracks;
        int overgrownTracks;
        final int[] numbers = FIRST_NUMBERS.clone();
        final int[] latitudes = FIRST_LATITUDES.clone();
        final Land land = new Land();
        final Tracks tracks = new Tracks();
        final Herd herd = new Herd();
        final Pack pack = new Pack();
        final Readers readers = new Readers();
        // No part of the state: a row that each day uses again.
        final int[] order = new int[SHARDS];

        void copyFrom(State other) {
            day = other.day;
            cutTracks = other.cutTracks;
            overgrownTracks = other.overgrownTracks;
            copyRow(other.numbers, numbers);
            copyRow(other.latitudes, latitudes);
            land.copyFrom(other.land);
            tracks.copyFrom(other.tracks);
            herd.copyFrom(other.herd);
            pack.copyFrom(other.pack);
            readers.copyFrom(other.readers);
        }

        int season() {
            int length = numbers[SEASON_LENGTH];
            return length > 0 ? day / length % SEASONS : 0;
        }

        int seasonLatitude() {
            return latitudes[season()];
        }

        /** Lets a day pass; how many shards moved in it. */
        int passDay() {
            herd.cool();
            letWolvesGo();
            letTracksGrowOver();
            int moved = driveHerd();
            letInnsPostOnTheirDay();
            day++;
            return moved;
        }

        /** Lets a day pass for the shards alone: wolves, tracks and inns have no say in where they go. */
        void passDayOfHerd() {
            herd.cool();
            driveHerd();
            day++;
        }

        void letWolvesGo() {
            for (int w = 0; w < pack.number; w++) {
                pack.advance(w, land.number);
                letWolfCut(w);
            }
        }

        int letWolfCut(int wolf) {
            int p = pack.at[wolf];
            // No track is younger than today, so that these are all.
            int gone = land.inn[p] ? 0 : tracks.removeLeftUntil(day, p);
            cutTracks += gone;
            return gone;
        }

        int tracksInReach(int wolf) {
            int p = pack.at[wolf];
            return land.inn[p] ? 0 : tracks.countIn(p);
        }

        void letTracksGrowOver() {
            for (int p = 0; p < land.number; p++) {
                if (!land.inn[p]) {
                    overgrownTracks += tracks.removeLeftUntil(day - numbers[TRACK_LIFE], p);
                }
            }
        }

        int driveHerd() {
            int moved = 0;
            int latitude = seasonLatitude();
            herd.sortByHeat(order);
            for (int i = 0; i < SHARDS && moved < numbers[DROVERS]; i++) {
                int s = order[i];
                int from = herd.at[s];
                int to = land.bestOther(from, latitude);
                if (to != NONE
                        && land.distance(from, latitude) - land.distance(to, latitude) >= numbers[MARGIN]) {
                    drive(s, to);
                    moved++;
                }
            }
            return moved;
        }

        /** Moves a shard to another pasture, which has room. */
        void drive(int s, int to) {
            int from = herd.at[s];
            tracks.leave(s, from, to, day);
            herd.at[s] = to;
            herd.moves[s]++;
            land.herdSize[from]--;
            land.herdSize[to]++;
        }

        void letInnsPostOnTheirDay() {
            int days = numbers[POST_DAYS];
            if (days > 0 && (day + 1) % days == 0) {
                letInnsPost();
            }
        }

        void letInnsPost() {
            land.tellAll(herd.at);
        }

        void noteRequest(int reader, int s, Route route) {
            readers.note(reader, s, herd.at[s], route);
            herd.warm(s, numbers[WARMTH]);
            for (int p = 0; p < land.number; p++) {
                if (route.sent[p]) {
                    land.sentTo[p]++;
                }
            }
        }
    }

    /** How a reader reaches a shard; it looks at a state and changes nothing in it. */
    private static final class Route {
        int hops;
        int followed;
        int askedInns;
        int sentInns;
        boolean cried;
        int length;
        final int[] places = new int[LONGEST_WAY];
        final boolean[] asked = new boolean[MOST_PASTURES];
        final boolean[] sent = new boolean[MOST_PASTURES];

        void find(State state, int reader, int s) {
            int here = state.readers.memory[cell(reader, s)];
            int goal = state.herd.at[s];
            begin(here);
            for (int turn = 0; turn < LONGEST_WAY && here != goal; turn++) {
                here = next(state, s, here);
                put(here);
            }
        }

        private void begin(int place) {
            hops = 0;
            followed = 0;
            askedInns = 0;
            sentInns = 0;
            cried = false;
            for (int p = 0; p < MOST_PASTURES; p++) {
                asked[p] = false;
                sent[p] = false;
            }
            length = 0;
            put(place);
        }

        private void put(int place) {
            if (length < LONGEST_WAY) {
                places[length] = place;
                length++;
            }
        }

        private int next(State state, int s, int here) {
            if (state.tracks.isAt(here, s)) {
                hops++;
                followed++;
                return state.tracks.leadsTo[cell(here, s)];
            }
            int posted = state.land.posted[cell(here, s)];
            if (!asked[here] && posted != NONE && posted != here) {
                hops++;
                askedInns++;
                asked[here] = true;
                return posted;
            }
            int inn = nearestNewInn(state.land, here);
            if (inn != NONE) {
                hops++;
                sentInns++;
                sent[inn] = true;
                return inn;
            }
            hops += state.land.number;
            cried = true;
            return state.herd.at[s];
        }

        private int nearestNewInn(Land land, int here) {
            int best = NONE;
            int least = MOST_LATITUDE + 1;
            for (int p = 0; p < land.number; p++) {
                boolean isNew = land.inn[p] && !sent[p] && !asked[p];
                if (p != here && isNew && land.distance(p, land.latitude[here]) < least) {
                    best = p;
                    least = land.distance(p, land.latitude[here]);
                }
            }
            return best;
        }
    }

    /** The text, and the requests that were read from it last. */
    private static final class RequestText {
        int length;
        int number;
        final int[] readers = new int[MOST_REQUESTS];
        final int[] keys = new int[MOST_REQUESTS];
        final int[] values = new int[MOST_REQUESTS];
        private final char[] characters = new char[LONGEST_TEXT];
        private int next;

        void append(char character) {
            if (length < LONGEST_TEXT) {
                characters[length] = character;
                length++;
            }
        }

        /** Reads the requests; the index of the fault, or NO_FAULT. */
        int parse() {
            next = 0;
            number = 0;
            while (number < MOST_REQUESTS && parseRequest(number)) {
                number++;
                if (next == length) {
                    return NO_FAULT;
                }
                if (!skip(',')) {
                    return next;
                }
            }
            return next;
        }

        // Each of these stops at the first character that is not allowed, which is the fault then.

        private boolean parseRequest(int request) {
            if (!isDigit() || digit() >= MOST_READERS) {
                return false;
            }
            readers[request] = digit();
            next++;
            if (!skip(':') || !isDigit()) {
                return false;
            }
            keys[request] = parseNumber(3);
            values[request] = NO_VALUE;
            if (skip('=')) {
                if (!isDigit()) {
                    return false;
                }
                values[request] = parseNumber(4);
            }
            return true;
        }

        /** Reads a number that begins here; "0" is one alone, so that no digit may follow it. */
        private int parseNumber(int mostDigits) {
            int result = digit();
            next++;
            for (int i = 1; i < mostDigits && result > 0 && isDigit(); i++) {
                result = result * 10 + digit();
                next++;
            }
            return result;
        }

        private boolean skip(char character) {
            if (next < length && characters[next] == character) {
                next++;
                return true;
            }
            return false;
        }

        private boolean isDigit() {
            return next < length && characters[next] >= '0' && characters[next] <= '9';
        }

        private int digit() {
            return next < length ? characters[next] - '0' : 0;
        }
    }

    /** The latest states, in a ring. */
    private static final class History {
        int number;
        private int oldest;
        private final State[] states = new State[MOST_STATES];

        History() {
            for (int i = 0; i < MOST_STATES; i++) {
                states[i] = new State();
            }
        }

        void store(State state) {
            states[(oldest + number) % MOST_STATES].copyFrom(state);
            if (number < MOST_STATES) {
                number++;
            } else {
                oldest = (oldest + 1) % MOST_STATES;
            }
        }

        void takeBack(State state) {
            if (number > 0) {
                number--;
                state.copyFrom(states[(oldest + number) % MOST_STATES]);
            }
        }
    }
}
