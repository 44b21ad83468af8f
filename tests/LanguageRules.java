import java.lang.reflect.Array;
import java.lang.reflect.Constructor;
import java.lang.reflect.Field;
import java.lang.reflect.Member;
import java.lang.reflect.Method;
import java.lang.reflect.Modifier;
import java.nio.file.Files;
import java.nio.file.Path;
import java.util.ArrayList;
import java.util.Arrays;
import java.util.HashMap;
import java.util.HashSet;
import java.util.IdentityHashMap;
import java.util.List;
import java.util.Map;
import java.util.Set;
import java.util.StringJoiner;
import java.util.TreeSet;
import java.util.regex.Matcher;
import java.util.regex.Pattern;

/** What of ../shared/LANGUAGE.md can be seen from the source and the class; run in the project's folder. */
public final class LanguageRules {
    /** Each object may take so much, arrays, elements and fields: some 700 of them fill the room. */
    private static final int MOST_ELEMENTS = 10000;
    private static final int MOST_OBJECTS = 60;
    private static final String[] FORBIDDEN = {
        "\\bthrow\\b", "\\bthrows\\b", "\\btry\\b", "\\bcatch\\b", "\\bsynchronized\\b", "\\bassert\\b", "->", "::",
        "\\bpackage\\b", "Exact\\b", "\\bHashMap\\b", "\\bRandom\\b", "\\bThread\\b", "\\bSystem\\.(?!arraycopy)",
        "\\bstatic\\s*\\{", "\\bObject\\b", "\\bprotected\\b"};
    private static int wrong = 0;

    public static void main(String[] args) throws Exception {
        String text = Files.readString(Path.of("src/main/java/BrickModels.java"));
        String code = text.replaceAll("(?s)/\\*.*?\\*/", " ").replaceAll("//[^\n]*", " ");
        Set<String> face = documentsFace();
        words(code);
        face(face);
        Set<String> names = namesOf(face);
        members(names);
        methods(code, names);
        roomOfObjects();
        roomOfCalls();
        System.out.println(wrong == 0 ? "all rules are kept" : wrong + " rules are not kept");
        if (wrong != 0) {
            System.exit(1);
        }
    }

    private static void check(boolean holds, String rule) {
        if (!holds) {
            wrong++;
            System.out.println(rule);
        }
    }

    private static void words(String code) {
        for (String word : FORBIDDEN) {
            Matcher found = Pattern.compile(word).matcher(code);
            check(!found.find(), "the source has " + word);
        }
        Matcher imports = Pattern.compile("import ([^;]+);").matcher(code);
        while (imports.find()) {
            check(imports.group(1).equals("java.util.Arrays"), "import of " + imports.group(1));
        }
        for (int i = 0; i < code.length(); i++) {
            check(code.charAt(i) < 128, "a sign beyond 127 at " + i);
        }
    }

    /** The public members that the document tells, as name(types). */
    private static Set<String> documentsFace() throws Exception {
        String document = Files.readString(Path.of("../shared/DOC.md"));
        int from = document.indexOf("public final class BrickModels {");
        int to = document.indexOf("```", from);
        Set<String> face = new TreeSet<>();
        check(from >= 0 && to >= 0, "the document tells no face");
        if (from >= 0 && to >= 0) {
            Matcher member = Pattern.compile("public (?:(int) )?(\\w+)\\(([^)]*)\\);").matcher(document.substring(from, to));
            while (member.find()) {
                String types = member.group(3).replaceAll(" \\w+(?=,|$)", "").replace(" ", "");
                face.add((member.group(1) == null ? "" : "int ") + member.group(2) + "(" + types + ")");
            }
        }
        check(face.size() == 28, "the document's face has " + face.size() + " members");
        return face;
    }

    private static Set<String> namesOf(Set<String> face) {
        Set<String> names = new HashSet<>();
        for (String member : face) {
            if (member.startsWith("int ")) {
                names.add(member.substring(4, member.indexOf('(')));
            }
        }
        return names;
    }

    private static void face(Set<String> want) {
        Set<String> have = new TreeSet<>();
        for (Method m : BrickModels.class.getDeclaredMethods()) {
            if (Modifier.isPublic(m.getModifiers())) {
                have.add(m.getReturnType() + " " + m.getName() + typesOf(m.getParameterTypes()));
                check(!Modifier.isStatic(m.getModifiers()), m + " is static");
            }
        }
        for (Constructor<?> c : BrickModels.class.getDeclaredConstructors()) {
            check(Modifier.isPublic(c.getModifiers()), c + " is not public");
            have.add(c.getDeclaringClass().getSimpleName() + typesOf(c.getParameterTypes()));
        }
        check(want.equals(have), "the face is " + have);
        int modifiers = BrickModels.class.getModifiers();
        check(Modifier.isPublic(modifiers) && Modifier.isFinal(modifiers), "the class is not public and final");
    }

    private static String typesOf(Class<?>[] types) {
        StringJoiner names = new StringJoiner(",", "(", ")");
        for (Class<?> type : types) {
            names.add(type.getName());
        }
        return names.toString();
    }

    private static void members(Set<String> names) {
        List<Class<?>> classes = new ArrayList<>(Arrays.asList(BrickModels.class.getDeclaredClasses()));
        check(classes.size() < 12, "more than twelve classes");
        for (Class<?> c : classes) {
            check(Modifier.isStatic(c.getModifiers()), c.getName() + " is not static");
            check(c.getDeclaredClasses().length == 0, c.getName() + " has classes inside");
        }
        classes.add(BrickModels.class);
        for (Class<?> c : classes) {
            int fields = 0;
            for (Field f : c.getDeclaredFields()) {
                boolean isStatic = Modifier.isStatic(f.getModifiers());
                fields += isStatic ? 0 : 1;
                check(!isStatic || Modifier.isFinal(f.getModifiers()), f + " is static and not final");
                check(c != BrickModels.class || isPrivate(f), f + " is not private");
            }
            check(fields <= 20, c.getName() + " has " + fields + " fields");
            for (Method m : c.getDeclaredMethods()) {
                boolean isFace = c == BrickModels.class && Modifier.isPublic(m.getModifiers());
                check(isFace || !names.contains(m.getName()), m + " bears the name of a public one");
                check(m.getParameterCount() <= 7, m + " takes more than seven");
                check(c != BrickModels.class || isFace || isPrivate(m), m + " is not private");
            }
        }
    }

    private static boolean isPrivate(Member m) {
        return Modifier.isPrivate(m.getModifiers());
    }

    /** Lengths of methods, and how deep calls go, by names: methods that share one are taken as one. */
    private static void methods(String code, Set<String> face) {
        Pattern head = Pattern.compile("(?m)^ +(?:public |private |static )*(?:int|long|boolean|void) (\\w+)\\([^)]*\\) \\{");
        Matcher found = head.matcher(code);
        Map<String, Set<String>> calls = new HashMap<>();
        Map<String, String> bodies = new HashMap<>();
        while (found.find()) {
            String body = bodyFrom(code, found.end());
            bodies.merge(found.group(1), body, String::concat);
            check(body.split("\n").length <= 60, found.group(1) + " is longer than 60 lines");
        }
        check(bodies.size() > 80, "methods are not found: " + bodies.size());
        for (Map.Entry<String, String> m : bodies.entrySet()) {
            Set<String> called = new TreeSet<>();
            Matcher call = Pattern.compile("(\\w+)\\(").matcher(m.getValue());
            while (call.find()) {
                boolean isOwn = bodies.containsKey(call.group(1));
                boolean isLibrary = Arrays.asList("bitCount", "min", "max", "abs", "fill").contains(call.group(1));
                if ((isOwn || isLibrary) && !call.group(1).equals(m.getKey())) {
                    called.add(call.group(1));
                }
            }
            calls.put(m.getKey(), called);
        }
        for (String member : face) {
            List<String> chain = longest(member, calls, new ArrayList<>());
            check(chain.size() <= 8, "calls go deeper than eight: " + chain);
        }
    }

    private static String bodyFrom(String code, int from) {
        int open = 1;
        int i = from;
        while (open > 0) {
            open += code.charAt(i) == '{' ? 1 : code.charAt(i) == '}' ? -1 : 0;
            i++;
        }
        return code.substring(from, i);
    }

    private static List<String> longest(String from, Map<String, Set<String>> calls, List<String> path) {
        List<String> best = new ArrayList<>();
        if (path.contains(from)) {
            return best;
        }
        path.add(from);
        for (String next : calls.getOrDefault(from, Set.of())) {
            List<String> chain = longest(next, calls, path);
            if (chain.size() > best.size()) {
                best = chain;
            }
        }
        path.remove(path.size() - 1);
        best.add(0, from);
        return best;
    }

    /** All that an object holds when it has answered its dearest calls. */
    private static void roomOfObjects() throws Exception {
        BrickModels m = new BrickModels();
        askAll(m);
        Map<Object, Integer> seen = new IdentityHashMap<>();
        measure(m, seen, 0);
        int elements = 0;
        for (int size : seen.values()) {
            elements += size;
        }
        check(seen.size() <= MOST_OBJECTS, "an object takes " + seen.size() + " objects and arrays");
        check(elements <= MOST_ELEMENTS, "an object takes " + elements + " fields and elements");
    }

    private static void measure(Object o, Map<Object, Integer> seen, int depth) throws Exception {
        if (o == null || seen.containsKey(o) || depth > 20) {
            return;
        }
        boolean isArray = o.getClass().isArray();
        int size = isArray ? Array.getLength(o) : 0;
        seen.put(o, size);
        for (Field f : isArray ? new Field[0] : o.getClass().getDeclaredFields()) {
            if (!Modifier.isStatic(f.getModifiers())) {
                size++;
                f.setAccessible(true);
                measure(f.getType().isPrimitive() ? null : f.get(o), seen, depth + 1);
            }
        }
        seen.put(o, size);
        for (int i = 0; isArray && !o.getClass().getComponentType().isPrimitive() && i < size; i++) {
            measure(Array.get(o, i), seen, depth + 1);
        }
    }

    /** Calls use the rows of their object again: they make nothing. */
    private static void roomOfCalls() {
        com.sun.management.ThreadMXBean threads =
                (com.sun.management.ThreadMXBean) java.lang.management.ManagementFactory.getThreadMXBean();
        long self = Thread.currentThread().getId();
        BrickModels[] models = new BrickModels[200];
        for (int i = 0; i < models.length; i++) {
            models[i] = new BrickModels();
        }
        askAll(models[0]);
        threads.getThreadAllocatedBytes(self);
        long before = threads.getThreadAllocatedBytes(self);
        for (int i = 1; i < models.length; i++) {
            askAll(models[i]);
        }
        long made = threads.getThreadAllocatedBytes(self) - before;
        // some 40 calls to each: one small object in any of them would come to more
        check(made < 16L * (models.length - 1), "calls made " + made + " bytes of objects");
    }

    /** Each call of the face, those that search in states where they have to. */
    private static void askAll(BrickModels m) {
        for (int i = 0; i < 16; i++) {
            m.cell(i % 4, i / 4, 1, 1);
        }
        m.lay(1, 1);
        m.take(0);
        m.place(6, 1, 4, 0, 0, 2);
        m.cover(1, 1);
        m.coverSeams(1, 1);
        m.coverAt(1, 1, 0);
        for (int i = 0; i < 9; i++) {
            m.place(0, 0, i % 4, i / 4, 0, 3);
        }
        m.order(0);
        m.sound();
        m.pieces();
        m.piece(1);
        m.pieceOf(0, 2);
        m.key(1);
        m.weak(1);
        m.studs(1, 2);
        m.grip(3);
        m.fit(1);
        m.seams(true);
        m.inner();
        m.cellOf(0, 0, 0);
        m.at(0, 0, 0);
        m.box(1, 4);
        m.lacking();
        m.lacks(0);
        m.seen(4, 0, 0);
        m.brickOf(1, 0);
        m.count(3);
        m.count(4);
        m.take(99);
    }
}
