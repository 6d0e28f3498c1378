import java.io.IOException;
import java.lang.reflect.Method;
import java.lang.reflect.Modifier;
import java.nio.file.Files;
import java.nio.file.Path;
import java.util.Map;
import java.util.Set;
import java.util.TreeMap;
import java.util.TreeSet;
import java.util.regex.Matcher;
import java.util.regex.Pattern;
import java.util.stream.Collectors;
import java.util.stream.Stream;

// What README.md says: its examples are made call by call, and its list of tests is held against the folder.
public final class NetJudgeReadme {
    private static final Path README = Path.of("README.md");
    private static final Path TESTS = Path.of("src/test/java");
    private static final Pattern BLOCK = Pattern.compile("(?s)```java\n(.*?)```");
    private static final Pattern MAKE = Pattern.compile("(?:NetJudge )?net = new NetJudge\\((-?\\d+), (-?\\d+)\\);");
    private static final Pattern CALL = Pattern.compile("net\\.(\\w+)\\(([-\\d, ]*)\\);(?: +// (-?\\w+).*)?");
    private static final Pattern LISTED = Pattern.compile("(?m)^- `(\\w+)`:");
    private static final Map<String, Method> face = new TreeMap<>();
    private static final Set<String> called = new TreeSet<>();
    private static NetJudge net;
    private static int wrong = 0;

    public static void main(String[] args) throws Exception {
        for (Method m : NetJudge.class.getDeclaredMethods()) {
            if (Modifier.isPublic(m.getModifiers())) face.put(m.getName(), m);
        }
        String text = Files.readString(README);
        Matcher block = BLOCK.matcher(text);
        while (block.find()) {
            for (String line : block.group(1).split("\n")) example(line);
        }
        due("the methods that the examples call", called, face.keySet());
        due("the tests that are listed", listedTests(text), testsInTheFolder());
        System.out.println(wrong == 0 ? "the examples are right" : wrong + " things in README.md are wrong");
        if (wrong != 0) System.exit(1);
    }

    private static void due(String what, Object got, Object want) {
        if (!got.equals(want)) {
            wrong++;
            System.out.println("README.md: " + what + ": it says " + got + ", due is " + want);
        }
    }

    private static void example(String line) throws Exception {
        Matcher make = MAKE.matcher(line);
        Matcher call = CALL.matcher(line);
        if (make.matches()) {
            net = new NetJudge(Integer.parseInt(make.group(1)), Integer.parseInt(make.group(2)));
        } else if (call.matches() && net != null && face.containsKey(call.group(1))) {
            called.add(call.group(1));
            Object answer = face.get(call.group(1)).invoke(net, numbers(call.group(2)));
            due(line, String.valueOf(call.group(3)), inWords(call.group(1), answer));
        } else {
            due("an example that is no call of the class", line, "");
        }
    }

    private static Object[] numbers(String list) {
        if (list.isEmpty()) return new Object[0];
        return Stream.of(list.split(", ")).map(Integer::valueOf).toArray();
    }

    // A call without an answer has none behind it, which reads as null on both sides.
    private static String inWords(String name, Object answer) {
        if (!name.equals("verdict")) return String.valueOf(answer);
        return answer.equals(NetJudge.SAFE) ? "SAFE" : answer.equals(NetJudge.UNSAFE) ? "UNSAFE" : "neither";
    }

    private static Set<String> listedTests(String text) {
        Set<String> names = new TreeSet<>();
        Matcher listed = LISTED.matcher(text);
        while (listed.find()) names.add(listed.group(1));
        return names;
    }

    private static Set<String> testsInTheFolder() throws IOException {
        try (Stream<Path> files = Files.list(TESTS)) {
            return files.map(f -> f.getFileName().toString()).filter(n -> n.endsWith(".java"))
                .map(n -> n.substring(0, n.length() - ".java".length())).collect(Collectors.toCollection(TreeSet::new));
        }
    }
}
