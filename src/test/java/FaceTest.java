import java.io.IOException;
import java.lang.reflect.Constructor;
import java.lang.reflect.Field;
import java.lang.reflect.Method;
import java.lang.reflect.Modifier;
import java.nio.file.Files;
import java.nio.file.Path;
import java.util.ArrayList;
import java.util.Arrays;
import java.util.List;
import java.util.Set;
import java.util.TreeSet;

/** The public face: what the document shows of it is there, and nothing else is seen. */
public final class FaceTest {
    private static final Dues D = new Dues("FaceTest");
    private static final Path DOCUMENT = Path.of("../shared/DOC.md");
    private static final Set<String> FACE = Set.of(
        "task(1)", "weigh(2)", "tie(2)", "untie(2)", "gather(2)", "commit(0)", "undo(0)", "place(1)", "at(1)",
        "count(1)", "reaches(2)", "tied(2)", "witness(1)", "time(2)", "critical(1)", "plan(1)", "planned(2)",
        "check(0)");

    public static void main(String[] args) throws Exception {
        constants();
        methods();
        membersAreHidden();
        if (Files.isReadable(DOCUMENT)) {
            faceOfTheDocument();
        } else {
            System.out.println("the face is not held against the document: it is not at " + DOCUMENT);
        }
        D.end();
    }

    private static void constants() throws Exception {
        for (String name : new String[] {"NONE", "RING"}) {
            Field field = OrderKeeper.class.getField(name);
            D.due(name, Modifier.toString(field.getModifiers()) + " " + field.getType(), "public static final int");
        }
        D.due("NONE", OrderKeeper.class.getField("NONE").getInt(null), -1);
        D.due("RING", OrderKeeper.class.getField("RING").getInt(null), -2);
        D.due("public fields", OrderKeeper.class.getFields().length, 2);
    }

    private static void methods() {
        Set<String> found = new TreeSet<>();
        for (Method method : OrderKeeper.class.getDeclaredMethods()) {
            if (Modifier.isPublic(method.getModifiers())) {
                found.add(method.getName() + "(" + method.getParameterCount() + ")");
                D.due(method.getName() + "'s type", method.getReturnType(), int.class);
                for (Class<?> type : method.getParameterTypes()) {
                    D.due(method.getName() + "'s parameter", type, int.class);
                }
            } else {
                boolean named = FACE.stream().anyMatch(call -> call.startsWith(method.getName() + "("));
                D.due("a hidden method named as a public one: " + method.getName(), named, false);
            }
        }
        D.due("public methods", found, new TreeSet<>(FACE));
        D.due("public constructors", OrderKeeper.class.getConstructors().length, 1);
        D.due("its modifiers", Modifier.toString(OrderKeeper.class.getModifiers()), "public final");
        D.due("what it extends", OrderKeeper.class.getSuperclass(), Object.class);
        D.due("what it implements", OrderKeeper.class.getInterfaces().length, 0);
    }

    private static void membersAreHidden() {
        for (Field field : OrderKeeper.class.getDeclaredFields()) {
            boolean face = field.getName().equals("NONE") || field.getName().equals("RING");
            D.due(field.getName() + " is hidden", face || Modifier.isPrivate(field.getModifiers()), true);
        }
        for (Method method : OrderKeeper.class.getDeclaredMethods()) {
            int is = method.getModifiers();
            D.due(method.getName() + " is hidden", Modifier.isPublic(is) || Modifier.isPrivate(is), true);
        }
        for (Constructor<?> constructor : OrderKeeper.class.getDeclaredConstructors()) {
            D.due("constructor", constructor.getParameterCount(), 0);
        }
    }

    private static void faceOfTheDocument() throws Exception {
        List<String> shown = shownFace();
        D.due("the document shows a face", shown.size() > 2, true);
        D.due("the face, as the document shows it", new TreeSet<>(seenFace()), new TreeSet<>(shown));
        D.due("each member once", seenFace().size(), shown.size());
    }

    /** The lines of the document's block, without the names of parameters, which the class does not keep. */
    private static List<String> shownFace() throws IOException {
        List<String> lines = new ArrayList<>();
        boolean inside = false;
        for (String line : Files.readAllLines(DOCUMENT)) {
            if (line.startsWith("```")) {
                inside = line.startsWith("```java");
            } else if (inside && !line.trim().equals("}")) {
                lines.add(line.trim().replaceAll("\\bint \\w+(?=[,)])", "int"));
            }
        }
        return lines;
    }

    private static List<String> seenFace() throws IllegalAccessException {
        Class<?> type = OrderKeeper.class;
        List<String> lines = new ArrayList<>();
        lines.add(Modifier.toString(type.getModifiers()) + " class " + type.getName() + " {");
        for (Field field : type.getFields()) {
            lines.add(Modifier.toString(field.getModifiers()) + " " + field.getType() + " " + field.getName()
                + " = " + field.getInt(null) + ";");
        }
        for (Constructor<?> each : type.getConstructors()) {
            lines.add("public " + type.getName() + parameters(each.getParameterTypes()));
        }
        for (Method each : type.getDeclaredMethods()) {
            if (Modifier.isPublic(each.getModifiers())) {
                lines.add(Modifier.toString(each.getModifiers()) + " " + each.getReturnType() + " " + each.getName()
                    + parameters(each.getParameterTypes()));
            }
        }
        return lines;
    }

    private static String parameters(Class<?>[] types) {
        return Arrays.toString(types).replace("[", "(").replace("]", ")") + ";";
    }
}
