import java.io.IOException;
import java.lang.management.ManagementFactory;
import java.lang.reflect.Field;
import java.lang.reflect.Method;
import java.lang.reflect.Modifier;
import java.nio.file.Files;
import java.nio.file.Path;
import java.util.ArrayList;
import java.util.Arrays;
import java.util.HashSet;
import java.util.List;
import java.util.Set;
import java.util.TreeSet;

/** The public face, and those rules of LANGUAGE.md that a program can look at. */
final class RuleTests {
    private static final String[] FACE = {
        "int addPasture(int,int,boolean)", "int setRoom(int,int)", "int setInn(int,boolean)",
        "int addWolf(int,int)", "int driveWolf()", "int addReader(int)", "int setSeason(int,int)",
        "int set(int,int)", "int pass(int)", "int move(int,int)", "int post()", "int cut(int)",
        "int request(int,int)", "int write(int,int,int)", "int type(char)", "int clearText()",
        "int readRequests()", "int undo()", "int keep()", "int restore()", "int pasture(int,int)",
        "int track(int,int,int)", "int shard(int,int)", "int value(int)", "int reader(int,int)",
        "int remembered(int,int)", "int reach(int,int,int)", "int way(int,int,int)",
        "int movesIn(int)", "int count(int)",
    };
    private static final String[] FORBIDDEN = {
        "throw", "throws", "try", "catch", "finally", "synchronized", "assert",
        "System.out", "System.exit", "Exact(", "Thread", "Random", "Object", "protected", "float", "double",
        "->", "::", "var ", "@", "equals", "hashCode", "toString",
    };
    private static final int MOST_BYTES_OF_A_RUN = 200_000;

    private RuleTests() {
    }

    static void run(Path root) throws IOException {
        face();
        constants();
        classesInside();
        source(Files.readString(root.resolve("src/main/java/ShardTrails.java")));
        room();
    }

    private static void face() {
        Check.rule("1, the face");
        Set<String> told = new TreeSet<>();
        for (Method method : ShardTrails.class.getDeclaredMethods()) {
            if (!Modifier.isPrivate(method.getModifiers()) && !method.isSynthetic()) {
                List<String> types = new ArrayList<>();
                for (Class<?> type : method.getParameterTypes()) {
                    types.add(type.getName());
                }
                told.add(method.getReturnType() + " " + method.getName() + "(" + String.join(",", types) + ")");
                Check.holds(method + " is public and of an object",
                    Modifier.isPublic(method.getModifiers()) && !Modifier.isStatic(method.getModifiers()));
            }
        }
        Check.same("methods", told.toString(), new TreeSet<>(Arrays.asList(FACE)).toString());
        Check.holds("public and final", Modifier.isPublic(ShardTrails.class.getModifiers())
            && Modifier.isFinal(ShardTrails.class.getModifiers()));
        Check.due("constructors", ShardTrails.class.getDeclaredConstructors().length, 1);
        Check.due("public ones", ShardTrails.class.getConstructors().length, 1);
        Set<String> open = new TreeSet<>();
        for (Field field : ShardTrails.class.getDeclaredFields()) {
            if (!Modifier.isPrivate(field.getModifiers())) {
                open.add(field.getName());
            }
        }
        Check.same("fields", open.toString(), "[BAD_VALUE, FULL, NONE, NOT_POSSIBLE, UNKNOWN]");
    }

    private static void constants() {
        Check.due("UNKNOWN", ShardTrails.UNKNOWN, -1);
        Check.due("BAD_VALUE", ShardTrails.BAD_VALUE, -2);
        Check.due("FULL", ShardTrails.FULL, -3);
        Check.due("NOT_POSSIBLE", ShardTrails.NOT_POSSIBLE, -4);
        Check.due("NONE", ShardTrails.NONE, -5);
    }

    private static void classesInside() {
        Check.rule("2, 5 and 11, classes");
        Set<String> publicNames = new HashSet<>();
        for (String method : FACE) {
            publicNames.add(method.substring(4, method.indexOf('(')));
        }
        Class<?>[] inside = ShardTrails.class.getDeclaredClasses();
        Check.holds("at most 12 classes: " + (inside.length + 1), inside.length + 1 <= 12);
        for (Class<?> type : inside) {
            Check.holds(type + " is static and not public", Modifier.isStatic(type.getModifiers())
                && !Modifier.isPublic(type.getModifiers()) && !Modifier.isProtected(type.getModifiers()));
            Check.due("classes in " + type, type.getDeclaredClasses().length, 0);
            methods(type, publicNames);
            fields(type);
        }
        methods(ShardTrails.class, new HashSet<>());
        for (Method method : ShardTrails.class.getDeclaredMethods()) {
            Check.holds(method + " is public or named otherwise",
                Modifier.isPublic(method.getModifiers()) || !publicNames.contains(method.getName()));
        }
        fields(ShardTrails.class);
    }

    private static void methods(Class<?> type, Set<String> takenNames) {
        for (Method method : type.getDeclaredMethods()) {
            Check.holds(method + " is named otherwise than a public one", !takenNames.contains(method.getName()));
            Check.holds(method + " takes at most 7", method.getParameterCount() <= 7);
        }
    }

    private static void fields(Class<?> type) {
        int number = 0;
        for (Field field : type.getDeclaredFields()) {
            if (Modifier.isStatic(field.getModifiers())) {
                Check.holds(field + " is final", Modifier.isFinal(field.getModifiers()));
            } else {
                number++;
            }
        }
        Check.holds("at most 20 fields in " + type + ": " + number, number <= 20);
    }

    private static void source(String source) {
        Check.rule("4, 6 and 12, the source");
        String code = source.replaceAll("(?s)/\\*.*?\\*/", "").replaceAll("//.*", "");
        for (String word : FORBIDDEN) {
            boolean isName = Character.isLetter(word.charAt(0)) && Character.isLetter(word.charAt(word.length() - 1));
            String pattern = isName ? "(?s).*\\b" + word + "\\b.*" : "(?s).*\\Q" + word + "\\E.*";
            Check.holds("no " + word, !code.matches(pattern));
        }
        for (String line : code.split("\n")) {
            if (line.startsWith("import")) {
                Check.same("import", line.trim(), "import java.util.Arrays;");
            }
        }
        Check.holds("no package", !code.contains("package"));
        for (int i = 0; i < source.length(); i++) {
            char sign = source.charAt(i);
            if (sign != '\n' && (sign < ' ' || sign > '~')) {
                Check.holds("a sign at " + i + " is " + (int) sign, false);
            }
        }
        shortMethods(code);
    }

    private static void shortMethods(String code) {
        int begin = -1;
        String name = "";
        String[] lines = code.split("\n");
        for (int i = 0; i < lines.length; i++) {
            if (lines[i].matches("( {4}| {8})[a-z].*\\) \\{") && !lines[i].trim().matches("(if|for|while|switch).*")) {
                begin = i;
                name = lines[i].trim();
            }
            if (begin >= 0 && lines[i].equals(lines[begin].replaceAll("\\S.*", "") + "}")) {
                Check.holds(name + " has at most 60 lines: " + (i - begin + 1), i - begin + 1 <= 60);
                begin = -1;
            }
        }
    }

    /** A run of 512 calls that are dear: what it makes in the room. */
    private static void room() {
        Check.rule("12, the room");
        com.sun.management.ThreadMXBean room =
            (com.sun.management.ThreadMXBean) ManagementFactory.getThreadMXBean();
        dearRun();
        long before = room.getCurrentThreadAllocatedBytes();
        dearRun();
        long made = room.getCurrentThreadAllocatedBytes() - before;
        Check.holds("a run makes few bytes: " + made, made < MOST_BYTES_OF_A_RUN);
    }

    private static void dearRun() {
        ShardTrails x = new ShardTrails();
        for (int p = 1; p < 8; p++) {
            x.addPasture(10 * p, 16, p % 2 == 0);
        }
        for (int r = 0; r < 6; r++) {
            x.addReader(r);
        }
        x.addWolf(0, 1);
        for (int i = 0; i < 60; i++) {
            x.type("0:0,".charAt(i % 4));
        }
        for (int i = 0; i < 48; i++) {
            x.pass(60);
            x.movesIn(i % 16);
            x.readRequests();
            x.write(i % 6, i, i);
            x.reach(i % 6, i, 0);
            x.way(i % 6, i, 3);
            x.keep();
            x.restore();
            x.undo();
        }
    }
}
