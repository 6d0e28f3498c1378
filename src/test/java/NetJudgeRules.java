import java.lang.reflect.Constructor;
import java.lang.reflect.Field;
import java.lang.reflect.Method;
import java.lang.reflect.Modifier;
import java.nio.file.Files;
import java.nio.file.Path;
import java.util.ArrayList;
import java.util.List;
import java.util.Map;
import java.util.Set;
import java.util.TreeMap;
import java.util.TreeSet;
import java.util.regex.Matcher;
import java.util.regex.Pattern;

// The public face, and those rules of LANGUAGE.md that can be seen without understanding the program.
public final class NetJudgeRules {
    private static final Path PROGRAM = Path.of("src/main/java/NetJudge.java");
    private static int wrong = 0;

    public static void main(String[] args) throws Exception {
        members();
        types();
        words();
        calls();
        System.out.println(wrong == 0 ? "the rules are kept" : wrong + " rules are broken");
        if (wrong != 0) System.exit(1);
    }

    private static void broken(String what) {
        wrong++;
        System.out.println(what);
    }

    private static void members() {
        Set<String> face = new TreeSet<>(List.of(
            "public static final int NetJudge.SAFE",
            "public static final int NetJudge.UNSAFE",
            "public NetJudge(int,int)",
            "public boolean NetJudge.setTransition(int,int,int)",
            "public boolean NetJudge.dropTransition(int)",
            "public boolean NetJudge.setInitial(int)",
            "public int NetJudge.verdict()",
            "public int NetJudge.distance(int)",
            "public int NetJudge.markings()",
            "public int NetJudge.covers(int)",
            "public int NetJudge.firstFiring(int)",
            "public boolean NetJudge.together(int,int)",
            "public int NetJudge.deadlock()",
            "public int NetJudge.deadMarking()",
            "public boolean NetJudge.fire(int)",
            "public int NetJudge.current()",
            "public int NetJudge.enabled()",
            "public void NetJudge.rewind()"));
        Set<String> seen = new TreeSet<>();
        Set<String> publicNames = new TreeSet<>();
        for (Field f : NetJudge.class.getDeclaredFields()) {
            if (!Modifier.isPrivate(f.getModifiers())) seen.add(f.toString());
        }
        for (Constructor<?> c : NetJudge.class.getDeclaredConstructors()) {
            seen.add(c.toString());
        }
        for (Method m : NetJudge.class.getDeclaredMethods()) {
            if (!Modifier.isPrivate(m.getModifiers())) {
                seen.add(m.toString());
                publicNames.add(m.getName());
            }
        }
        if (!seen.equals(face)) broken("rule 1: the face is " + seen + ", due is " + face);
        for (Method m : NetJudge.class.getDeclaredMethods()) {
            if (Modifier.isPrivate(m.getModifiers()) && publicNames.contains(m.getName())) broken("rule 1: " + m);
        }
        int kind = NetJudge.class.getModifiers();
        if (!Modifier.isPublic(kind) || !Modifier.isFinal(kind)) broken("rule 1: the class is public and final");
        if (NetJudge.class.getDeclaredClasses().length != 0) broken("rule 1: a nested class");
        if (!NetJudge.class.getPackageName().isEmpty()) broken("a package line");
    }

    private static void types() {
        Set<Class<?>> numbers = Set.of(int.class, long.class, short.class, byte.class, char.class, boolean.class);
        int fields = 0;
        for (Field f : NetJudge.class.getDeclaredFields()) {
            Class<?> type = f.getType().isArray() ? f.getType().getComponentType() : f.getType();
            if (!numbers.contains(type)) broken("rule 2: " + f);
            if (!Modifier.isStatic(f.getModifiers())) {
                fields++;
            } else if (!Modifier.isFinal(f.getModifiers()) || (f.getType() != int.class && f.getType() != long.class)) {
                broken("rule 5: " + f);
            }
            if (f.getType().isArray() && !Modifier.isFinal(f.getModifiers())) broken("rule 4, array not final: " + f);
        }
        if (fields > 40) broken("rule 10: " + fields + " fields");
        for (Method m : NetJudge.class.getDeclaredMethods()) {
            if (m.getReturnType() != void.class && !numbers.contains(m.getReturnType())) broken("rules 2 and 4: " + m);
            if (m.getParameterCount() > 7) broken("rule 10: " + m);
        }
    }

    private static String withoutComments() throws Exception {
        return Files.readString(PROGRAM).replaceAll("(?s)/\\*.*?\\*/", "").replaceAll("//[^\n]*", "");
    }

    private static void words() throws Exception {
        String text = withoutComments();
        String barred = "float|double|String|Object|Math|Integer|Long|System|Arrays|import|package|null|throw|throws|try"
            + "|catch|synchronized|assert|instanceof|enum|record|interface|protected|var|Thread|volatile|native";
        Matcher word = Pattern.compile("\\b(" + barred + ")\\b|->|::|\"|@").matcher(text);
        while (word.find()) broken("rules 1 to 6: " + word.group());
        Matcher made = Pattern.compile("[^\n]*\\bnew\\b[^\n]*").matcher(text);
        while (made.find()) {
            // The program makes all its arrays in the fields' initialisers.
            if (!made.group().matches("    private final \\w+\\[\\] \\w+ = new \\w+\\[[A-Z_]+\\];")) {
                broken("rule 4: " + made.group());
            }
        }
        Matcher nested = Pattern.compile("\\b(?!(?:if|for|while|switch|return)\\b)\\w+\\([^()]*\\w\\([^\n]*").matcher(text);
        while (nested.find()) broken("rule 10, a call in a call: " + nested.group());
    }

    // Leans on the program's layout: a method begins and ends on lines of its own, four blanks in.
    private static void calls() throws Exception {
        Map<String, String> bodies = new TreeMap<>();
        Matcher method = Pattern.compile("(?ms)^    (?:public|private) [^\n;=]*?(\\w+)\\([^\n]*\\) \\{\n(.*?)^    \\}")
            .matcher(withoutComments());
        while (method.find()) bodies.put(method.group(1), method.group(2));
        int declared = NetJudge.class.getDeclaredMethods().length + NetJudge.class.getDeclaredConstructors().length;
        if (bodies.size() != declared) broken("methods found in the text: " + bodies.size() + " of " + declared);
        for (String name : bodies.keySet()) {
            int lines = bodies.get(name).split("\n").length;
            if (lines > 60) broken("rule 10: " + name + " has " + lines + " lines");
            follow(name, bodies, List.of());
        }
    }

    private static void follow(String name, Map<String, String> bodies, List<String> callers) {
        List<String> chain = new ArrayList<>(callers);
        chain.add(name);
        if (callers.contains(name)) {
            broken("rule 8, recursion: " + chain);
            return;
        }
        if (chain.size() > 6) broken("rule 10, too deep: " + chain);
        Matcher call = Pattern.compile("\\b(\\w+)\\(").matcher(bodies.get(name));
        while (call.find()) {
            if (bodies.containsKey(call.group(1))) follow(call.group(1), bodies, chain);
        }
    }
}
