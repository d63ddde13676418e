import java.io.IOException;
import java.lang.reflect.Constructor;
import java.lang.reflect.Field;
import java.lang.reflect.Method;
import java.lang.reflect.Modifier;
import java.nio.file.Files;
import java.nio.file.Path;
import java.util.LinkedHashMap;
import java.util.LinkedHashSet;
import java.util.Map;
import java.util.Set;
import java.util.TreeSet;
import java.util.regex.Matcher;
import java.util.regex.Pattern;

/** The public face, and those rules of LANGUAGE.md that can be seen in the class or its text. */
public final class LanguageTest {
    private static final String FACE =
        "public BoundTrees()|public int place(int,int)|public int seen(int,int,int)|public int fork(int,int,boolean)"
        + "|public int exit(int)|public int chdir(int,int)|public int dot(int)"
        + "|public int bind(int,int,int,int,boolean)|public int mount(int,int,int,int,boolean)"
        + "|public int unmount(int,int,int)|public int create(int,int,boolean)|public int remove(int,int)"
        + "|public int open(int,int)|public long read(int,int)|public int write(int,int,int)"
        + "|public boolean seek(int,int,int)|public boolean close(int,int)|public int state(int)"
        + "|public int about(int,int)"
        + "|int REFUSED|int NOT_FOUND|int NOT_DIRECTORY|int TOO_DEEP|int EXISTS|int FULL|int KIND|int NO_CREATE"
        + "|int NOT_EMPTY|int NOT_BOUND|int NONE|long END|long CLOSED";
    private static final String FORBIDDEN =
        "import|package|float|double|String|Object|Math|Integer|Long|System|Arrays|null|interface|enum|record|throw|throws"
        + "|try|catch|finally|synchronized|assert|instanceof|var|extends|implements|native|volatile|transient|this|super";
    private static final String WORDS_BEFORE_BRACKET = "if|for|while|switch|return|do|else|case";
    private static final int LONGEST_METHOD = 60, DEEPEST_CALLS = 6, MOST_FIELDS = 40, MOST_PARAMETERS = 7;

    private static final int[] ARGUMENTS = {
        Integer.MIN_VALUE, -1771562, -1771561, -25, -14, -13, -12, -11, -4, -3, -2, -1, 0, 1, 2, 3, 4, 5, 6, 9, 10, 11, 12, 13,
        24, 47, 48, 120, 121, 1771560, 1771561, BoundTrees.NONE, Integer.MAX_VALUE};

    private static int wrong = 0;
    private static long seed = 1;

    private static void check(boolean fine, String what) {
        if (!fine) {
            wrong++;
            System.out.println(what);
        }
    }

    private static String parameters(Class<?>[] types) {
        StringBuilder all = new StringBuilder("(");
        for (Class<?> type : types) {
            all.append(all.length() > 1 ? "," : "").append(type.getSimpleName());
        }
        return all.append(")").toString();
    }

    private static boolean plainType(Class<?> type) {
        Class<?> item = type.isArray() ? type.getComponentType() : type;
        return item.isPrimitive() && item != float.class && item != double.class;
    }

    private static void face() {
        Set<String> face = new TreeSet<>();
        Set<String> publicNames = new TreeSet<>();
        for (Constructor<?> c : BoundTrees.class.getDeclaredConstructors()) {
            face.add((Modifier.toString(c.getModifiers()) + " BoundTrees" + parameters(c.getParameterTypes())).trim());
        }
        for (Method m : BoundTrees.class.getDeclaredMethods()) {
            if (!Modifier.isPrivate(m.getModifiers())) {
                publicNames.add(m.getName());
                face.add(Modifier.toString(m.getModifiers()) + " " + m.getReturnType() + " " + m.getName()
                    + parameters(m.getParameterTypes()));
            }
        }
        for (Field f : BoundTrees.class.getDeclaredFields()) {
            if (!Modifier.isPrivate(f.getModifiers())) {
                check(Modifier.toString(f.getModifiers()).equals("public static final"), "modifiers of " + f.getName());
                face.add(f.getType() + " " + f.getName());
            }
        }
        check(face.equals(new TreeSet<>(Set.of(FACE.split("\\|")))), "rule 1: the face is " + face);
        for (Method m : BoundTrees.class.getDeclaredMethods()) {
            boolean hidden = Modifier.isPrivate(m.getModifiers());
            check(!hidden || !publicNames.contains(m.getName()), "rule 1: a private " + m.getName());
            check(m.getParameterCount() <= MOST_PARAMETERS, "rule 10: parameters of " + m.getName());
            check(plainType(m.getReturnType()) && !m.getReturnType().isArray(), "rule 4: answer of " + m.getName());
        }
        check(BoundTrees.class.getDeclaredClasses().length == 0, "rule 1: a nested class");
        check(Modifier.toString(BoundTrees.class.getModifiers()).equals("public final"), "rule 1: the class");
    }

    private static void fields() {
        int count = 0;
        for (Field f : BoundTrees.class.getDeclaredFields()) {
            int modifiers = f.getModifiers();
            check(plainType(f.getType()), "rule 2: type of " + f.getName());
            if (Modifier.isStatic(modifiers)) {
                boolean whole = f.getType() == int.class || f.getType() == long.class;
                check(whole && Modifier.isFinal(modifiers), "rule 5: " + f.getName());
            } else {
                count++;
                check(!f.getType().isArray() || Modifier.isFinal(modifiers), "rule 4: " + f.getName() + " is not final");
            }
        }
        check(count <= MOST_FIELDS, "rule 10: " + count + " fields");
    }

    private static String withoutComments(String text) {
        return text.replaceAll("(?s)/\\*.*?\\*/", "").replaceAll("//[^\n]*", "");
    }

    /** The methods' bodies by their names, found by the indentation that the file keeps to. */
    private static Map<String, String> bodies(String text) {
        Map<String, String> all = new LinkedHashMap<>();
        Pattern method = Pattern.compile("(?ms)^    (?:public|private)[a-z ]* (\\w+)\\([^)]*\\) \\{\n(.*?)^    \\}$");
        Matcher m = method.matcher(text);
        while (m.find()) {
            all.put(m.group(1), m.group(2));
        }
        return all;
    }

    private static void text(String text) {
        Matcher word = Pattern.compile("\\b(" + FORBIDDEN + ")\\b").matcher(text);
        while (word.find()) {
            check(false, "a word outside the rules: " + word.group(1));
        }
        check(!text.contains("->") && !text.contains("::") && !text.contains("\"") && !text.contains("[][]")
            && !text.contains("@"), "rules 2, 6: a sign outside the rules");
        Matcher made = Pattern.compile("(?m)^(.*)\\bnew\\b(.*)$").matcher(text);
        while (made.find()) {
            check(made.group().matches("    private final (\\w+)\\[\\] \\w+ = new \\1\\[[A-Z_]+\\];"),
                "rule 4: made elsewhere: " + made.group());
        }
    }

    private static Set<String> callsOf(String body) {
        Set<String> calls = new LinkedHashSet<>();
        Matcher call = Pattern.compile("\\b(\\w+)\\(").matcher(body);
        while (call.find()) {
            if (!call.group(1).matches(WORDS_BEFORE_BRACKET)) {
                calls.add(call.group(1));
            }
        }
        return calls;
    }

    private static boolean hasCallInArguments(String body, Set<String> methods) {
        Matcher call = Pattern.compile("\\b(\\w+)\\(").matcher(body);
        while (call.find()) {
            if (!methods.contains(call.group(1))) {
                continue;
            }
            int end = call.end();
            for (int open = 1; open > 0; end++) {
                open += body.charAt(end) == '(' ? 1 : body.charAt(end) == ')' ? -1 : 0;
            }
            if (!callsOf(body.substring(call.end(), end)).isEmpty()) {
                return true;
            }
        }
        return false;
    }

    private static int depth(String name, Map<String, String> bodies, int above) {
        if (above > DEEPEST_CALLS) {
            return above;
        }
        int deepest = above;
        for (String called : callsOf(bodies.get(name))) {
            deepest = Math.max(deepest, depth(called, bodies, above + 1));
        }
        return deepest;
    }

    private static void methods(String text) {
        Map<String, String> bodies = bodies(text);
        check(bodies.size() == BoundTrees.class.getDeclaredMethods().length + 1, "the bodies found: " + bodies.size());
        bodies.forEach((name, body) -> {
            check(bodies.keySet().containsAll(callsOf(body)), "rule 3: " + name + " calls another's method");
            check(body.lines().count() <= LONGEST_METHOD, "rule 10: " + name + " is long");
            check(!hasCallInArguments(body, bodies.keySet()), "rule 10: a call inside the arguments of a call in " + name);
            check(!body.contains("while") && !body.contains("do {"), "rule 8: " + name + " has a loop without a counter");
        });
        for (String name : bodies.keySet()) {
            check(depth(name, bodies, 1) <= DEEPEST_CALLS, "rules 8, 10: calls of " + name + " go too deep");
        }
    }

    private static int chance(int bound) {
        seed = seed * 6364136223846793005L + 1442695040888963407L;
        return (int) ((seed >>> 33) % bound);
    }

    private static int any() {
        return ARGUMENTS[chance(ARGUMENTS.length)];
    }

    private static void anyCall(BoundTrees x) {
        int p = chance(8) == 0 ? any() : chance(4);
        boolean yes = chance(2) == 0;
        switch (chance(18)) {
            case 0: x.place(p, any()); break;
            case 1: x.seen(p, any(), any()); break;
            case 2: x.fork(p, any(), yes); break;
            case 3: x.exit(p); break;
            case 4: x.chdir(p, any()); break;
            case 5: x.dot(p); break;
            case 6: x.bind(p, any(), any(), chance(3), yes); break;
            case 7: x.mount(p, chance(3), any(), chance(3), yes); break;
            case 8: x.unmount(p, any(), any()); break;
            case 9: x.create(p, any(), yes); break;
            case 10: x.remove(p, any()); break;
            case 11: x.open(p, any()); break;
            case 12: x.read(p, any()); break;
            case 13: x.write(p, any(), any()); break;
            case 14: x.seek(p, any(), any()); break;
            case 15: x.close(p, any()); break;
            case 16: x.state(any()); break;
            default: x.about(any(), any()); break;
        }
    }

    /** Rule 7: what calls behind the 512th answer is free, but they may not throw either. */
    private static void nothingIsThrown() {
        for (int i = 0; i < 20; i++) {
            BoundTrees x = new BoundTrees();
            for (int call = 0; call < 20000; call++) {
                anyCall(x);
            }
        }
    }

    public static void main(String[] args) throws IOException {
        face();
        fields();
        String text = withoutComments(Files.readString(Path.of("src/main/java/BoundTrees.java")));
        text(text);
        methods(text);
        nothingIsThrown();
        System.out.println(wrong == 0 ? "the class keeps to the rules" : wrong + " breaches");
        if (wrong != 0) {
            System.exit(1);
        }
    }
}
