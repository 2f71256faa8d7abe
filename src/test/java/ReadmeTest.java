import java.io.IOException;
import java.lang.reflect.Method;
import java.nio.file.Files;
import java.nio.file.Path;
import java.util.Arrays;
import java.util.HashMap;
import java.util.Map;
import java.util.Set;
import java.util.TreeSet;
import java.util.regex.Matcher;
import java.util.regex.Pattern;
import java.util.stream.Collectors;
import java.util.stream.Stream;

/** What README.md says agrees with the class and with .ci/run. */
public final class ReadmeTest {
    private static final Dues D = new Dues("ReadmeTest");
    private static final Path PROGRAM = Path.of("src/main/java/OrderKeeper.java");
    private static final Pattern CALL = Pattern.compile("(?:int (\\w+) = )?keeper\\.(\\w+)\\((.*)\\); *// (RING|NONE|\\d+)\\b.*");
    private static final Map<String, Integer> CONSTANTS = Map.of("RING", OrderKeeper.RING, "NONE", OrderKeeper.NONE);

    private static String readme;

    public static void main(String[] args) throws Exception {
        readme = Files.readString(Path.of("README.md"));
        exampleAnswersSo();
        everyCallIsTold();
        limits();
        classesInside();
        everyTestIsTold();
        howTestsAreRun();
        D.end();
    }

    private static String section(String heading) {
        Matcher section = Pattern.compile("(?s)\n## " + heading + "\n(.*?)(?=\n## |$)").matcher(readme);
        boolean found = section.find();
        D.due("there is a section '" + heading + "'", found, true);
        return found ? section.group(1) : "";
    }

    private static Set<String> all(String pattern, String text) {
        return Pattern.compile(pattern).matcher(text).results().map(found -> found.group(1))
            .collect(Collectors.toCollection(TreeSet::new));
    }

    private static void exampleAnswersSo() throws Exception {
        String example = section("How to use it").replaceAll("(?s).*```java\n(.*?)```.*", "$1");
        String[] lines = example.split("\n");
        D.due("the example's first line", lines[0], "OrderKeeper keeper = new OrderKeeper();");
        OrderKeeper keeper = new OrderKeeper();
        Map<String, Integer> names = new HashMap<>(CONSTANTS);
        for (String line : Arrays.asList(lines).subList(1, lines.length)) {
            Matcher call = CALL.matcher(line);
            D.due("a line with a call and its answer: " + line, call.matches(), true);
            if (call.matches()) {
                int answer = answer(keeper, call.group(2), call.group(3), names);
                D.due(line, answer, number(call.group(4), names));
                names.put(String.valueOf(call.group(1)), answer);
            }
        }
    }

    private static int answer(OrderKeeper keeper, String name, String given, Map<String, Integer> names) throws Exception {
        Object[] numbers = given.isEmpty() ? new Object[0]
            : Arrays.stream(given.split(", ")).map(each -> number(each, names)).toArray();
        Class<?>[] types = new Class<?>[numbers.length];
        Arrays.fill(types, int.class);
        Method method = OrderKeeper.class.getMethod(name, types);
        return (int) method.invoke(keeper, numbers);
    }

    private static int number(String text, Map<String, Integer> names) {
        return names.containsKey(text) ? names.get(text) : Integer.parseInt(text);
    }

    private static void everyCallIsTold() throws IOException {
        Set<String> calls = all("public int (\\w+\\(.*\\)) \\{", Files.readString(PROGRAM)).stream()
            .map(call -> call.replace("int ", "")).collect(Collectors.toCollection(TreeSet::new));
        D.due("the calls of the table", all("\\| `(.*?)` \\|", section("How to use it")), calls);
        D.due("there are calls", calls.size(), 18);
    }

    /** The numbers that the text names are those at which the class refuses or forgets. */
    private static void limits() {
        String text = section("How to use it").replaceAll("\\s+", " ");
        D.due("tasks and weights", text.contains("room for " + mostTasks() + " tasks with weights of 0 to " + mostWeight() + ","), true);
        D.due("ties", text.contains(", " + mostTies() + " ties,"), true);
        D.due("the bundle", text.contains(", " + mostWaiting() + " ties in the bundle"), true);
        D.due("doings", text.contains(" and " + mostRemembered() + " doings to take back"), true);
        D.due("workers", text.contains("plans for 1 to " + mostWorkers() + " workers"), true);
        D.due("calls", text.contains("made for 512 calls"), true);
        D.due("NONE", text.contains("`OrderKeeper.NONE` (" + OrderKeeper.NONE + ")"), true);
        D.due("RING", text.contains("`OrderKeeper.RING` (" + OrderKeeper.RING + ")"), true);
    }

    private static int mostTasks() {
        return Dues.withManyTasks(100).count(0);
    }

    private static int mostWeight() {
        OrderKeeper k = new OrderKeeper();
        int most = 0;
        for (int weight = 980; weight < 1020; weight++) {
            most = k.task(weight) == OrderKeeper.NONE ? most : weight;
        }
        return most;
    }

    private static int mostTies() {
        return Dues.withManyTies(406).count(1);
    }

    private static int mostWaiting() {
        OrderKeeper k = Dues.withManyTasks(2);
        for (int i = 0; i < 200; i++) {
            k.gather(0, 1);
        }
        return k.count(2);
    }

    private static int mostRemembered() {
        OrderKeeper k = Dues.withManyTasks(1);
        for (int i = 0; i < 200; i++) {
            k.weigh(0, i);
        }
        return k.count(3);
    }

    private static int mostWorkers() {
        OrderKeeper k = Dues.withManyTasks(1);
        int most = 0;
        for (int workers = 1; workers < 100; workers++) {
            most = k.plan(workers) == OrderKeeper.NONE ? most : workers;
        }
        return most;
    }

    private static void classesInside() {
        Set<String> inside = Arrays.stream(OrderKeeper.class.getDeclaredClasses()).map(Class::getSimpleName)
            .collect(Collectors.toCollection(TreeSet::new));
        D.due("the classes that it is built of", all("`([A-Z]\\w*)`", section("How it is built")), inside);
    }

    private static void everyTestIsTold() throws IOException {
        String text = section("How to run its tests");
        D.due("the tests of the table", all("\n\\| (\\w+Test) \\|", text), files("Test"));
        D.due("the parts of EdgesTest", all("`(\\w+Edges)`", text), files("Edges"));
    }

    private static Set<String> files(String end) throws IOException {
        try (Stream<Path> files = Files.list(Path.of("src/test/java"))) {
            return files.map(file -> file.getFileName().toString()).filter(name -> name.endsWith(end + ".java"))
                .map(name -> name.replace(".java", "")).collect(Collectors.toCollection(TreeSet::new));
        }
    }

    private static void howTestsAreRun() throws IOException {
        String text = section("How to run its tests");
        D.due("the command", text.contains("```sh\n.ci/run\n```"), true);
        D.due("it can be run", Files.isExecutable(Path.of(".ci/run")), true);
        String script = Files.readString(Path.of(".ci/run"));
        for (String told : new String[] {"src/test/java", "../shared/tests", "*Test.java"}) {
            D.due("both name " + told, text.contains(told) && script.contains(told), true);
        }
    }
}
