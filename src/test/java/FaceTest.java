import java.lang.reflect.Constructor;
import java.lang.reflect.Executable;
import java.lang.reflect.Field;
import java.lang.reflect.Method;
import java.lang.reflect.Modifier;
import java.nio.file.Files;
import java.nio.file.Path;
import java.util.Set;
import java.util.TreeSet;
import java.util.regex.Matcher;
import java.util.regex.Pattern;

/** The public face of the document, and what a test can tell of the rules of LANGUAGE.md. */
public final class FaceTest {
    private static final Dues D = new Dues("FaceTest");
    private static final Path PROGRAM = Path.of("src/main/java/OrderKeeper.java");
    private static final Set<String> FACE = Set.of(
        "task(1)", "weigh(2)", "tie(2)", "untie(2)", "gather(2)", "commit(0)", "undo(0)", "place(1)", "at(1)",
        "count(1)", "reaches(2)", "tied(2)", "witness(1)", "time(2)", "critical(1)", "plan(1)", "planned(2)",
        "check(0)");

    public static void main(String[] args) throws Exception {
        constants();
        methods();
        membersAreHidden();
        classesInside();
        wordsOfTheSource();
        D.end();
    }

    private static void constants() throws Exception {
        for (String name : new String[] {"NONE", "RING"}) {
            Field field = OrderKeeper.class.getField(name);
            D.due(name, Modifier.toString(field.getModifiers()) + " " + field.getType(), "public static final int");
        }
        D.due("NONE", OrderKeeper.class.getField("NONE").getInt(null), -1);
        D.due("RING", OrderKeeper.class.getField("RING").getInt(null), -2);
        D.due("public fields", OrderKeeper.class.getFields().length, 2);
    }

    private static void methods() {
        Set<String> found = new TreeSet<>();
        for (Method method : OrderKeeper.class.getDeclaredMethods()) {
            if (Modifier.isPublic(method.getModifiers())) {
                found.add(method.getName() + "(" + method.getParameterCount() + ")");
                D.due(method.getName() + "'s type", method.getReturnType(), int.class);
                for (Class<?> type : method.getParameterTypes()) {
                    D.due(method.getName() + "'s parameter", type, int.class);
                }
            } else {
                boolean named = FACE.stream().anyMatch(call -> call.startsWith(method.getName() + "("));
                D.due("a hidden method named as a public one: " + method.getName(), named, false);
            }
        }
        D.due("public methods", found, new TreeSet<>(FACE));
        D.due("public constructors", OrderKeeper.class.getConstructors().length, 1);
        D.due("its modifiers", Modifier.toString(OrderKeeper.class.getModifiers()), "public final");
    }

    private static void membersAreHidden() {
        for (Field field : OrderKeeper.class.getDeclaredFields()) {
            boolean face = field.getName().equals("NONE") || field.getName().equals("RING");
            D.due(field.getName() + " is hidden", face || Modifier.isPrivate(field.getModifiers()), true);
        }
        for (Method method : OrderKeeper.class.getDeclaredMethods()) {
            int is = method.getModifiers();
            D.due(method.getName() + " is hidden", Modifier.isPublic(is) || Modifier.isPrivate(is), true);
        }
        for (Constructor<?> constructor : OrderKeeper.class.getDeclaredConstructors()) {
            D.due("constructor", constructor.getParameterCount(), 0);
        }
    }

    private static void classesInside() {
        Class<?>[] classes = OrderKeeper.class.getDeclaredClasses();
        D.due("at most twelve classes", classes.length <= 12, true);
        fewFields(OrderKeeper.class);
        for (Class<?> inside : classes) {
            int is = inside.getModifiers();
            D.due(inside + " is static", Modifier.isStatic(is), true);
            D.due(inside + " is not seen", Modifier.isPublic(is) || Modifier.isProtected(is), false);
            fewFields(inside);
            for (Executable method : inside.getDeclaredMethods()) {
                D.due(method + " has few parameters", method.getParameterCount() <= 7, true);
            }
        }
    }

    private static void fewFields(Class<?> type) {
        int sum = 0;
        for (Field field : type.getDeclaredFields()) {
            boolean shared = Modifier.isStatic(field.getModifiers());
            D.due(field + " is not shared and changed", shared && !Modifier.isFinal(field.getModifiers()), false);
            sum += shared ? 0 : 1;
        }
        D.due(type + " has few fields", sum <= 20, true);
    }

    private static void wordsOfTheSource() throws Exception {
        String source = Files.readString(PROGRAM).replaceAll("(?s)/\\*.*?\\*/", "").replaceAll("//[^\n]*", "");
        Matcher words = Pattern.compile(
            "\\b(throw|throws|try|catch|finally|synchronized|assert|package|native|volatile|Object|Thread|Random)\\b"
            + "|->|::|Exact\\b|System\\.(?!arraycopy)").matcher(source);
        while (words.find()) {
            D.due("a word that the rules rule out", words.group(), "");
        }
        Matcher imports = Pattern.compile("import\\s+([\\w.]+)").matcher(source);
        while (imports.find()) {
            String name = imports.group(1);
            D.due("import " + name, name.matches("java\\.util\\.(Arrays|ArrayList|List|Iterator)"), true);
        }
    }
}
