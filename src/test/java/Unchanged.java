import java.util.function.Consumer;
import java.util.function.ToIntFunction;

/** Calls that change nothing: behind such a call an object tells what it tells without it, and does so later, too. */
final class Unchanged {
    private final Consumer<ShardTrails> past;
    private final String before;

    Unchanged(Consumer<ShardTrails> past) {
        this.past = past;
        before = Told.deeply(past);
    }

    /** The call behind the past has this answer and changes nothing. */
    void due(String name, int due, ToIntFunction<ShardTrails> call) {
        ShardTrails x = new ShardTrails();
        past.accept(x);
        Check.due(name, call.applyAsInt(x), due);
        String after = Told.deeply(past.andThen(call::applyAsInt));
        Check.same(name + " changes nothing", firstDifference(after, before), "");
    }

    private static String firstDifference(String told, String due) {
        String[] toldWords = told.split(" ");
        String[] dueWords = due.split(" ");
        for (int i = 0; i < Math.min(toldWords.length, dueWords.length); i++) {
            if (!toldWords[i].equals(dueWords[i])) {
                return toldWords[i] + ", not " + dueWords[i];
            }
        }
        return toldWords.length == dueWords.length ? "" : "more or less is told";
    }
}
