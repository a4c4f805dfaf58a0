import java.util.ArrayDeque;
import java.util.ArrayList;
import java.util.Deque;
import java.util.List;
import java.util.Random;
import java.util.function.ToIntFunction;

/**
 * Runs of 512 calls by fixed seeds: the class and the model of the document answer the same. Once
 * in a run all that can be told is asked, of new objects with the same calls: no object is asked
 * more than the 512 calls that the document promises.
 */
final class RandomRuns {
    private static final int RUNS = 3000;
    private static final int CALLS = 512;
    private static final int MOST_CALLS_AT_ONCE = 10;
    private static final int FIRST_THAT_TELLS = 21;
    private static final int CALLS_BEFORE_A_LOOK = 400;
    private static final String[] TEXTS = {
        "0:0", "1:255=9999", "2:17,3:18=0", "0:5=70,0:160,1:5", "5:300", "0:05", "4:1=00", "3:16=1,", "0:,", "7:1",
        "0:0,0:16,0:32,0:48,0:64,0:80,0:96,1:112,1:128,2:144,2:160", "",
    };

    private final Random random;
    private final ShardTrails x = new ShardTrails();
    private final Model model = new Model();
    private final int[] weights = new int[30];
    private final Deque<Character> toType = new ArrayDeque<>();
    private final List<ToIntFunction<ShardTrails>> calls = new ArrayList<>();
    private int got;
    private int want;
    private String call = "";

    private RandomRuns(int seed) {
        random = new Random(seed);
    }

    static void run() {
        Check.rule("random runs beside a model");
        for (int seed = 0; seed < RUNS; seed++) {
            new RandomRuns(seed).runOnce(seed);
        }
    }

    private void runOnce(int seed) {
        for (int i = 0; i < weights.length; i++) {
            weights[i] = random.nextInt(4) == 0 ? 10 : 1 + random.nextInt(3);
        }
        weights[18] = 1;
        boolean still = random.nextBoolean();
        int beforeLook = 1 + random.nextInt(CALLS_BEFORE_A_LOOK);
        boolean looked = false;
        while (calls.size() < CALLS - MOST_CALLS_AT_ONCE) {
            if (calls.size() == 3 && still) {
                tell("set(3, 0)", y -> y.set(3, 0), model.set(3, 0));
            } else if (calls.size() < 9 && random.nextBoolean()) {
                addPasture();
            } else {
                callAny();
            }
            if (got != want) {
                Check.due("run " + seed + ", call " + calls.size() + ", " + call, got, want);
                return;
            }
            if (!looked && calls.size() >= beforeLook) {
                looked = true;
                Check.same("run " + seed + " behind call " + calls.size(), look(), "");
            }
        }
        while (got == want && calls.size() < CALLS) {
            ask(FIRST_THAT_TELLS + random.nextInt(weights.length - FIRST_THAT_TELLS));
        }
        Check.due("run " + seed + ", call " + calls.size() + ", " + call, got, want);
    }

    /** The answers to all questions that are not as due. */
    private String look() {
        List<Model.Question> questions = model.questions();
        StringBuilder wrong = new StringBuilder();
        int asked = 0;
        while (asked < questions.size()) {
            ShardTrails again = new ShardTrails();
            for (ToIntFunction<ShardTrails> done : calls) {
                done.applyAsInt(again);
            }
            for (int left = CALLS - calls.size(); left > 0 && asked < questions.size(); left--) {
                Model.Question question = questions.get(asked);
                int answer = question.call().applyAsInt(again);
                if (answer != question.due()) {
                    wrong.append(question.name()).append(": ").append(answer);
                    wrong.append(", not ").append(question.due()).append("; ");
                }
                asked++;
            }
        }
        return wrong.toString();
    }

    private int pick() {
        int sum = 0;
        for (int weight : weights) {
            sum += weight;
        }
        int left = random.nextInt(sum);
        int which = 0;
        while (left >= weights[which]) {
            left -= weights[which];
            which++;
        }
        return which;
    }

    private void tell(String name, ToIntFunction<ShardTrails> asked, int due) {
        call = name;
        got = asked.applyAsInt(x);
        want = due;
        calls.add(asked);
    }

    /** A number that is mostly in its bounds, sometimes at them, and sometimes outside. */
    private int in(int least, int most) {
        int kind = random.nextInt(40);
        if (kind == 0) {
            return least - 1;
        }
        if (kind == 1) {
            return most + 1;
        }
        if (kind == 2) {
            return random.nextInt();
        }
        if (kind < 6) {
            return random.nextBoolean() ? least : most;
        }
        return least + random.nextInt(Math.max(1, most - least + 1));
    }

    private int aPasture() {
        return in(0, model.count(3) - 1);
    }

    private int aReader() {
        return in(0, Math.max(0, model.count(6) - 1));
    }

    /** A shard: mostly one of few, so that it moves often. */
    private int aShard() {
        return random.nextInt(3) > 0 ? random.nextInt(3) : in(0, 15);
    }

    private int aKey() {
        return random.nextInt(3) > 0 ? random.nextInt(48) : in(0, 255);
    }

    private void addPasture() {
        int latitude = random.nextBoolean() ? 10 * random.nextInt(10) : in(0, 90);
        int room = random.nextBoolean() ? 1 + random.nextInt(3) : in(1, 16);
        boolean inn = random.nextBoolean();
        tell("addPasture(" + latitude + ", " + room + ", " + inn + ")",
            y -> y.addPasture(latitude, room, inn), model.addPasture(latitude, room, inn));
    }

    private void callAny() {
        int which = pick();
        if (which < 9) {
            change(which);
        } else if (which < FIRST_THAT_TELLS) {
            happen(which);
        } else {
            ask(which);
        }
    }

    private void change(int which) {
        int p = aPasture();
        boolean flag = random.nextBoolean();
        switch (which) {
            case 0 -> addPasture();
            case 1 -> {
                int room = random.nextBoolean() ? in(1, 16) : in(1, 4);
                tell("setRoom(" + p + ", " + room + ")", y -> y.setRoom(p, room), model.setRoom(p, room));
            }
            case 2 -> tell("setInn(" + p + ", " + flag + ")", y -> y.setInn(p, flag), model.setInn(p, flag));
            case 3 -> {
                int stride = in(1, 7);
                tell("addWolf(" + p + ", " + stride + ")", y -> y.addWolf(p, stride), model.addWolf(p, stride));
            }
            case 4 -> tell("driveWolf()", y -> y.driveWolf(), model.driveWolf());
            case 5, 6 -> tell("addReader(" + p + ")", y -> y.addReader(p), model.addReader(p));
            case 7 -> {
                int season = in(0, 3);
                int latitude = random.nextBoolean() ? 10 * random.nextInt(10) : in(0, 90);
                tell("setSeason(" + season + ", " + latitude + ")",
                    y -> y.setSeason(season, latitude), model.setSeason(season, latitude));
            }
            default -> {
                int[] most = {30, 60, 90, 16, 30, 100};
                int what = random.nextInt(30) == 0 ? in(0, 5) : random.nextInt(6);
                int bound = what >= 0 && what < 6 ? most[what] : 10;
                int value = random.nextBoolean() ? in(0, bound) : in(1, 6);
                tell("set(" + what + ", " + value + ")", y -> y.set(what, value), model.set(what, value));
            }
        }
    }

    private void happen(int which) {
        int reader = aReader();
        int key = aKey();
        int shard = aShard();
        int p = aPasture();
        switch (which) {
            case 9 -> {
                int days = random.nextInt(3) > 0 ? 1 + random.nextInt(3) : in(1, 60);
                tell("pass(" + days + ")", y -> y.pass(days), model.pass(days));
            }
            case 10, 11 -> tell("move(" + shard + ", " + p + ")", y -> y.move(shard, p), model.move(shard, p));
            case 12 -> tell("post()", y -> y.post(), model.post());
            case 13 -> {
                int wolf = in(0, 2);
                tell("cut(" + wolf + ")", y -> y.cut(wolf), model.cut(wolf));
            }
            case 14 -> tell("request(" + reader + ", " + key + ")",
                y -> y.request(reader, key), model.request(reader, key));
            case 15 -> {
                int value = in(0, 9999);
                tell("write(" + reader + ", " + key + ", " + value + ")",
                    y -> y.write(reader, key, value), model.write(reader, key, value));
            }
            case 16, 17 -> typeOne();
            case 18 -> {
                toType.clear();
                tell("clearText()", y -> y.clearText(), model.clearText());
            }
            case 19 -> tell("readRequests()", y -> y.readRequests(), model.readRequests());
            default -> takeBack();
        }
    }

    private void typeOne() {
        if (toType.isEmpty()) {
            String between = random.nextInt(8) == 0 ? "" : ",";
            for (char sign : (between + TEXTS[random.nextInt(TEXTS.length)]).toCharArray()) {
                toType.add(sign);
            }
            if (model.count(14) > 0 && random.nextInt(3) == 0) {
                tell("clearText()", y -> y.clearText(), model.clearText());
                toType.poll();
                return;
            }
        }
        char sign = toType.isEmpty() || random.nextInt(60) == 0 ? (char) random.nextInt(65536) : toType.poll();
        tell("type(" + (int) sign + ")", y -> y.type(sign), model.type(sign));
        for (int i = random.nextInt(9); i > 0 && got == want && !toType.isEmpty(); i--) {
            char next = toType.poll();
            tell("type(" + (int) next + ")", y -> y.type(next), model.type(next));
        }
    }

    private void takeBack() {
        switch (random.nextInt(4)) {
            case 0 -> tell("keep()", y -> y.keep(), model.keep());
            case 1 -> tell("restore()", y -> y.restore(), model.restore());
            default -> tell("undo()", y -> y.undo(), model.undo());
        }
    }

    private void ask(int which) {
        int reader = aReader();
        int key = aKey();
        int shard = aShard();
        int p = aPasture();
        int what = in(0, which == 29 ? 14 : 8);
        switch (which) {
            case 21 -> tell("pasture(" + p + ", " + what + ")", y -> y.pasture(p, what), model.pasture(p, what));
            case 22 -> {
                int part = in(0, 2);
                tell("track(" + p + ", " + shard + ", " + part + ")",
                    y -> y.track(p, shard, part), model.track(p, shard, part));
            }
            case 23 -> tell("shard(" + shard + ", " + what + ")", y -> y.shard(shard, what), model.shard(shard, what));
            case 24 -> tell("value(" + key + ")", y -> y.value(key), model.value(key));
            case 25 -> tell("reader(" + reader + ", " + what + ")",
                y -> y.reader(reader, what), model.reader(reader, what));
            case 26 -> tell("remembered(" + reader + ", " + shard + ")",
                y -> y.remembered(reader, shard), model.remembered(reader, shard));
            case 27 -> {
                int part = in(0, 4);
                tell("reach(" + reader + ", " + key + ", " + part + ")",
                    y -> y.reach(reader, key, part), model.reach(reader, key, part));
            }
            case 28 -> tell("way(" + reader + ", " + key + ", " + what + ")",
                y -> y.way(reader, key, what), model.way(reader, key, what));
            default -> {
                if (random.nextInt(3) > 0) {
                    tell("movesIn(" + shard + ")", y -> y.movesIn(shard), model.movesIn(shard));
                } else {
                    tell("count(" + what + ")", y -> y.count(what), model.count(what));
                }
            }
        }
    }
}
