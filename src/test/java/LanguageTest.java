import java.io.IOException;
import java.lang.reflect.Constructor;
import java.lang.reflect.Field;
import java.lang.reflect.Method;
import java.lang.reflect.Modifier;
import java.nio.file.Files;
import java.nio.file.Path;
import java.util.ArrayList;
import java.util.HashMap;
import java.util.HashSet;
import java.util.List;
import java.util.Map;
import java.util.Set;
import java.util.TreeSet;
import java.util.regex.Matcher;
import java.util.regex.Pattern;

/** The rules of LANGUAGE.md that can be seen from the text and the compiled class. */
public final class LanguageTest {
    private static final Path SOURCE = Path.of("src/main/java/CartFloor.java");
    private static final Set<String> LIBRARY = Set.of("System.arraycopy", "Arrays.fill", "Arrays.copyOf",
        "Arrays.copyOfRange", "Math.min", "Math.max", "Math.abs", "Long.bitCount", "Integer.bitCount");
    private static final Set<String> NO_METHODS = Set.of("if", "for", "while", "switch", "return", "this", "super");
    private static int wrong = 0;

    private static final class Body {
        final String name;
        final int parameters;
        final int lines;
        final Set<String> calls = new TreeSet<>();

        Body(String name, int parameters, int lines) {
            this.name = name;
            this.parameters = parameters;
            this.lines = lines;
        }
    }

    private static void fault(String what) {
        wrong++;
        System.out.println(what);
    }

    public static void main(String[] args) throws IOException {
        String text = withoutComments(Files.readString(SOURCE));
        words(text);
        Map<String, List<Body>> bodies = bodies(text);
        sizes(bodies);
        depth(bodies);
        face(bodies);
        System.out.println(wrong == 0 ? "the language's rules are kept" : wrong + " breaches");
        if (wrong != 0) {
            System.exit(1);
        }
    }

    private static String withoutComments(String text) {
        return text.replaceAll("(?s)/\\*.*?\\*/", " ").replaceAll("//[^\n]*", " ");
    }

    private static void words(String text) {
        String[] banned = {"\\bthrow\\b", "\\bthrows\\b", "\\btry\\b", "\\bcatch\\b", "\\bfinally\\b",
            "\\bsynchronized\\b", "\\bassert\\b", "->", "::", "\\bstatic\\s*\\{", "\\bprotected\\b", "\\bpackage\\b",
            "Exact\\b", "\\bthread", "\\bThread\\b", "\"", "\\bvolatile\\b", "\\bnative\\b", "\\bextends\\b",
            "\\bwhile\\s*\\(\\s*true", "for\\s*\\(\\s*;"};
        for (String word : banned) {
            if (Pattern.compile(word).matcher(text).find()) {
                fault("the text has " + word);
            }
        }
        Matcher imports = Pattern.compile("import ([^;]+);").matcher(text);
        while (imports.find()) {
            if (!imports.group(1).equals("java.util.Arrays")) {
                fault("import of " + imports.group(1));
            }
        }
        Matcher library = Pattern.compile("\\b(System|Arrays|Math|Long|Integer)\\s*\\.\\s*(\\w+)").matcher(text);
        while (library.find()) {
            String call = library.group(1) + "." + library.group(2);
            if (!LIBRARY.contains(call)) {
                fault("library: " + call);
            }
        }
    }

    /** All methods by name; those of one name count together, which makes the depth rather too great. */
    private static Map<String, List<Body>> bodies(String text) {
        Map<String, List<Body>> all = new HashMap<>();
        Matcher heads = Pattern.compile("(\\w+)\\s*\\(([^(){};]*)\\)\\s*\\{").matcher(text);
        while (heads.find()) {
            String name = heads.group(1);
            if (NO_METHODS.contains(name)) {
                continue;
            }
            int end = closing(text, heads.end());
            String inside = text.substring(heads.end(), end);
            String parameters = heads.group(2).trim();
            int n = parameters.isEmpty() ? 0 : parameters.split(",").length;
            Body body = new Body(name, n, (int) inside.chars().filter(ch -> ch == '\n').count());
            Matcher calls = Pattern.compile("(\\w+)\\s*\\(").matcher(inside);
            while (calls.find()) {
                body.calls.add(calls.group(1));
            }
            all.computeIfAbsent(name, key -> new ArrayList<>()).add(body);
        }
        return all;
    }

    private static int closing(String text, int from) {
        int open = 1;
        int place = from;
        while (open > 0) {
            char ch = text.charAt(place++);
            open += ch == '{' ? 1 : ch == '}' ? -1 : 0;
        }
        return place;
    }

    private static void sizes(Map<String, List<Body>> bodies) {
        for (List<Body> same : bodies.values()) {
            for (Body body : same) {
                if (body.parameters > 7) {
                    fault(body.name + " takes " + body.parameters + " parameters");
                }
                if (body.lines > 60) {
                    fault(body.name + " has " + body.lines + " lines");
                }
            }
        }
        List<Class<?>> classes = classes();
        if (classes.size() > 12) {
            fault(classes.size() + " classes");
        }
        for (Class<?> one : classes) {
            int fields = 0;
            for (Field field : one.getDeclaredFields()) {
                if (!Modifier.isStatic(field.getModifiers())) {
                    fields++;
                } else if (!Modifier.isFinal(field.getModifiers())) {
                    fault("static " + field.getName() + " is not final");
                }
            }
            if (fields > 20) {
                fault(one.getName() + " has " + fields + " fields");
            }
            if (one != CartFloor.class && !Modifier.isStatic(one.getModifiers())) {
                fault(one.getName() + " is not static");
            }
        }
    }

    private static List<Class<?>> classes() {
        List<Class<?>> all = new ArrayList<>();
        all.add(CartFloor.class);
        all.addAll(List.of(CartFloor.class.getDeclaredClasses()));
        return all;
    }

    private static void depth(Map<String, List<Body>> bodies) {
        for (String name : bodies.keySet()) {
            List<String> path = deepest(name, bodies, new HashSet<>());
            if (path.size() > 8) {
                fault("calls " + path.size() + " deep: " + path);
                return;
            }
        }
    }

    private static List<String> deepest(String name, Map<String, List<Body>> bodies, Set<String> open) {
        List<String> best = new ArrayList<>();
        if (!open.add(name)) {
            fault(name + " calls itself");
            return best;
        }
        for (Body body : bodies.get(name)) {
            for (String call : body.calls) {
                if (bodies.containsKey(call)) {
                    List<String> path = deepest(call, bodies, open);
                    best = path.size() > best.size() ? path : best;
                }
            }
        }
        open.remove(name);
        List<String> all = new ArrayList<>(List.of(name));
        all.addAll(best);
        return all;
    }

    private static void face(Map<String, List<Body>> bodies) {
        if (!Modifier.isFinal(CartFloor.class.getModifiers())) {
            fault("the class is not final");
        }
        Set<String> face = new HashSet<>();
        for (Method method : CartFloor.class.getDeclaredMethods()) {
            if (Modifier.isPublic(method.getModifiers())) {
                face.add(method.getName());
            } else if (!Modifier.isPrivate(method.getModifiers())) {
                fault(method.getName() + " is neither public nor private");
            }
        }
        Set<String> due = Set.of("lay", "row", "shelf", "cart", "errand", "plan", "many", "stop", "dawn", "tell",
            "hush", "check", "guest", "at", "shelved", "about", "count", "digest", "safe", "few", "hang", "take",
            "weight", "mark", "copy", "line", "slot", "mean");
        if (!face.equals(due)) {
            fault("the face is " + new TreeSet<>(face));
        }
        for (String name : due) {
            if (bodies.getOrDefault(name, List.of()).size() != 1) {
                fault("not just one method is named " + name);
            }
        }
        for (Field field : CartFloor.class.getDeclaredFields()) {
            if (!Modifier.isPrivate(field.getModifiers())) {
                fault(field.getName() + " is not private");
            }
        }
        Constructor<?>[] constructors = CartFloor.class.getDeclaredConstructors();
        if (constructors.length != 1 || !Modifier.isPublic(constructors[0].getModifiers())) {
            fault("there is not just one public constructor");
        }
    }
}
