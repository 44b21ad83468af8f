import java.lang.reflect.Member;
import java.lang.reflect.Method;
import java.lang.reflect.Modifier;
import java.nio.file.Files;
import java.nio.file.Path;
import java.util.ArrayList;
import java.util.Arrays;
import java.util.HashMap;
import java.util.HashSet;
import java.util.List;
import java.util.Map;
import java.util.Set;
import java.util.TreeSet;
import java.util.regex.Matcher;
import java.util.regex.Pattern;

/** What of ../shared/LANGUAGE.md can be seen from the source and the class; run in the project's folder. */
public final class LanguageRules {
    private static final String[] FACE = {
        "cell 4", "cellOf 3", "inner 0", "place 6", "take 1", "at 3", "studs 2", "pieces 0", "piece 1", "pieceOf 2",
        "key 1", "weak 1", "sound 0", "grip 1", "fit 1", "seams 1", "cover 2", "coverSeams 2", "coverAt 3", "lay 2",
        "box 2", "lacking 0", "lacks 1", "order 1", "seen 3", "brickOf 2", "count 1"};
    private static final String[] FORBIDDEN = {
        "\\bthrow\\b", "\\bthrows\\b", "\\btry\\b", "\\bcatch\\b", "\\bsynchronized\\b", "\\bassert\\b", "->", "::",
        "\\bpackage\\b", "Exact\\b", "\\bHashMap\\b", "\\bRandom\\b", "\\bThread\\b", "\\bSystem\\.(?!arraycopy)",
        "\\bstatic\\s*\\{", "\\bObject\\b", "\\bprotected\\b"};
    private static int wrong = 0;

    public static void main(String[] args) throws Exception {
        String text = Files.readString(Path.of("src/main/java/BrickModels.java"));
        String code = text.replaceAll("(?s)/\\*.*?\\*/", " ").replaceAll("//[^\n]*", " ");
        words(code);
        face();
        members();
        methods(code);
        System.out.println(wrong == 0 ? "all rules are kept" : wrong + " rules are not kept");
        if (wrong != 0) {
            System.exit(1);
        }
    }

    private static void check(boolean holds, String rule) {
        if (!holds) {
            wrong++;
            System.out.println(rule);
        }
    }

    private static void words(String code) {
        for (String word : FORBIDDEN) {
            Matcher found = Pattern.compile(word).matcher(code);
            check(!found.find(), "the source has " + word);
        }
        Matcher imports = Pattern.compile("import ([^;]+);").matcher(code);
        while (imports.find()) {
            check(imports.group(1).equals("java.util.Arrays"), "import of " + imports.group(1));
        }
        for (int i = 0; i < code.length(); i++) {
            check(code.charAt(i) < 128, "a sign beyond 127 at " + i);
        }
    }

    private static void face() {
        Set<String> want = new TreeSet<>(Arrays.asList(FACE));
        Set<String> have = new TreeSet<>();
        for (Method m : BrickModels.class.getDeclaredMethods()) {
            if (Modifier.isPublic(m.getModifiers())) {
                have.add(m.getName() + " " + m.getParameterCount());
                check(m.getReturnType() == int.class, m.getName() + " doesn't answer an int");
            }
        }
        check(want.equals(have), "the face is " + have);
        int modifiers = BrickModels.class.getModifiers();
        check(Modifier.isPublic(modifiers) && Modifier.isFinal(modifiers), "the class is not public and final");
        check(BrickModels.class.getDeclaredConstructors().length == 1, "there is more than one constructor");
    }

    private static void members() {
        Set<String> names = new HashSet<>();
        for (String member : FACE) {
            names.add(member.substring(0, member.indexOf(' ')));
        }
        List<Class<?>> classes = new ArrayList<>(Arrays.asList(BrickModels.class.getDeclaredClasses()));
        check(classes.size() < 12, "more than twelve classes");
        for (Class<?> c : classes) {
            check(Modifier.isStatic(c.getModifiers()), c.getName() + " is not static");
            check(c.getDeclaredClasses().length == 0, c.getName() + " has classes inside");
        }
        classes.add(BrickModels.class);
        for (Class<?> c : classes) {
            int fields = 0;
            for (java.lang.reflect.Field f : c.getDeclaredFields()) {
                boolean isStatic = Modifier.isStatic(f.getModifiers());
                fields += isStatic ? 0 : 1;
                check(!isStatic || Modifier.isFinal(f.getModifiers()), f + " is static and not final");
                check(c != BrickModels.class || isPrivate(f), f + " is not private");
            }
            check(fields <= 20, c.getName() + " has " + fields + " fields");
            for (Method m : c.getDeclaredMethods()) {
                boolean isFace = c == BrickModels.class && Modifier.isPublic(m.getModifiers());
                check(isFace || !names.contains(m.getName()), m + " bears the name of a public one");
                check(m.getParameterCount() <= 7, m + " takes more than seven");
                check(c != BrickModels.class || isFace || isPrivate(m), m + " is not private");
            }
        }
    }

    private static boolean isPrivate(Member m) {
        return Modifier.isPrivate(m.getModifiers());
    }

    /** Lengths of methods, and how deep calls go, by names: methods that share one are taken as one. */
    private static void methods(String code) {
        Pattern head = Pattern.compile("(?m)^ +(?:public |private |static )*(?:int|long|boolean|void) (\\w+)\\([^)]*\\) \\{");
        Matcher found = head.matcher(code);
        Map<String, Set<String>> calls = new HashMap<>();
        Map<String, String> bodies = new HashMap<>();
        while (found.find()) {
            String body = bodyFrom(code, found.end());
            bodies.merge(found.group(1), body, String::concat);
            check(body.split("\n").length <= 60, found.group(1) + " is longer than 60 lines");
        }
        check(bodies.size() > 80, "methods are not found: " + bodies.size());
        for (Map.Entry<String, String> m : bodies.entrySet()) {
            Set<String> called = new TreeSet<>();
            Matcher call = Pattern.compile("(\\w+)\\(").matcher(m.getValue());
            while (call.find()) {
                boolean isOwn = bodies.containsKey(call.group(1));
                boolean isLibrary = Arrays.asList("bitCount", "min", "max", "abs", "fill").contains(call.group(1));
                if ((isOwn || isLibrary) && !call.group(1).equals(m.getKey())) {
                    called.add(call.group(1));
                }
            }
            calls.put(m.getKey(), called);
        }
        for (String member : FACE) {
            List<String> chain = longest(member.substring(0, member.indexOf(' ')), calls, new ArrayList<>());
            check(chain.size() <= 8, "calls go deeper than eight: " + chain);
        }
    }

    private static String bodyFrom(String code, int from) {
        int open = 1;
        int i = from;
        while (open > 0) {
            open += code.charAt(i) == '{' ? 1 : code.charAt(i) == '}' ? -1 : 0;
            i++;
        }
        return code.substring(from, i);
    }

    private static List<String> longest(String from, Map<String, Set<String>> calls, List<String> path) {
        List<String> best = new ArrayList<>();
        if (path.contains(from)) {
            return best;
        }
        path.add(from);
        for (String next : calls.getOrDefault(from, Set.of())) {
            List<String> chain = longest(next, calls, path);
            if (chain.size() > best.size()) {
                best = chain;
            }
        }
        path.remove(path.size() - 1);
        best.add(0, from);
        return best;
    }
}
