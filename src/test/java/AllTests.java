import java.io.IOException;
import java.nio.file.Path;

/** Runs every test of the project; its argument is the project's folder. */
public final class AllTests {
    private AllTests() {
    }

    public static void main(String[] args) throws IOException {
        Path root = Path.of(args.length > 0 ? args[0] : ".");
        RuleTests.run(root);
        ReadmeTests.run(root);
        NewObjectTests.run();
        PastureTests.run();
        SettingTests.run();
        DayTests.run();
        HandTests.run();
        ReachTests.run();
        RequestTests.run();
        TextTests.run();
        HistoryTests.run();
        TellTests.run();
        EdgeTests.run();
        RefusalTests.run();
        RandomRuns.run();
        if (Check.finish() != 0) {
            System.exit(1);
        }
    }
}
