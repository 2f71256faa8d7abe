import java.io.IOException;
import java.nio.file.Files;
import java.nio.file.Path;
import java.util.List;

/** The rules of LANGUAGE.md that a source alone can tell: the program keeps them, and breaking one is seen. */
public final class RulesTest {
    private static final Path PROGRAM = Path.of("src/main/java/OrderKeeper.java");
    private static final Dues D = new Dues("RulesTest");

    public static void main(String[] args) throws IOException {
        D.due("rules that the program breaks", Rules.brokenBy(Files.readString(PROGRAM)), List.of());
        whatIsFine();
        faceAndClasses();
        typesAndLibrary();
        staticFields();
        words();
        loopsAndCalls();
        sizes();
        D.end();
    }

    /** Which rules a class with these members breaks, by their numbers. */
    private static String brokenBy(String members) throws IOException {
        return numbers("public final class OrderKeeper { " + members + " }");
    }

    private static String numbers(String source) throws IOException {
        StringBuilder numbers = new StringBuilder();
        for (String told : Rules.brokenBy(source)) {
            String number = told.replaceAll("rule (\\d+):.*", "$1");
            if (numbers.indexOf(number) < 0) {
                numbers.append(numbers.length() == 0 ? "" : " ").append(number);
            }
        }
        return numbers.toString();
    }

    private static void whatIsFine() throws IOException {
        D.due("rows", brokenBy("private static final int[] ROW = {1, 2}; private final long[][] table = new long[2][2];"), "");
        D.due("library", brokenBy("int f(int[] a) { System.arraycopy(a, 0, a, 1, 1); int[] b = a.clone();"
            + " return Math.max(Integer.bitCount(b[0]), b.length) + Integer.MAX_VALUE; }"), "");
        D.due("lists", numbers("import java.util.ArrayList; public final class OrderKeeper { private static class Part { int n; }"
            + " private final ArrayList<Part> parts = new ArrayList<>();"
            + " int f() { return parts.isEmpty() ? 0 : parts.get(0).n; } }"), "");
        D.due("texts", brokenBy("String f(String a) { return new StringBuilder().append(a).append('b').toString(); }"), "");
    }

    private static void faceAndClasses() throws IOException {
        D.due("a package line", numbers("package some; public final class OrderKeeper { }"), "1");
        D.due("a class that is seen", brokenBy("public static class Part { }"), "1");
        D.due("a class that is not static", brokenBy("private class Part { }"), "2");
        D.due("a local class", brokenBy("void f() { class Part { } }"), "2");
        D.due("an anonymous class", brokenBy("private interface Part { } void f() { Part part = new Part() { }; }"), "2");
        D.due("a lambda", brokenBy("private interface Part { int g(); } void f() { Part part = () -> 1; }"), "2");
        D.due("a method reference",
            brokenBy("private interface Part { int g(); } private static int h() { return 1; } void f() { Part part = OrderKeeper::h; }"), "2");
    }

    private static void typesAndLibrary() throws IOException {
        D.due("an object of any kind", brokenBy("private Object some;"), "3");
        D.due("a row of texts", brokenBy("private String[] some;"), "3");
        D.due("three dimensions", brokenBy("private int[][][] some;"), "3");
        D.due("an import", numbers("import java.util.HashMap; public final class OrderKeeper { }"), "4");
        D.due("a clock", brokenBy("long f() { return System.nanoTime(); }"), "4");
        D.due("chance", brokenBy("double f() { return Math.random(); }"), "4");
        D.due("what throws", brokenBy("int f(int a) { return Math.addExact(a, a); }"), "4");
        D.due("sorting", numbers("import java.util.Arrays; public final class OrderKeeper { void f(int[] a) { Arrays.sort(a); } }"), "4");
        D.due("a thread", brokenBy("void f() { new Thread(); }"), "4");
        D.due("an output", brokenBy("void f() { System.out.println(1); }"), "4");
    }

    private static void staticFields() throws IOException {
        D.due("static state", brokenBy("private static int some = 1;"), "5");
        D.due("an object as a constant", brokenBy("private static final StringBuilder SOME = new StringBuilder();"), "5");
        D.due("a static block", brokenBy("static { int some = 1; }"), "5");
    }

    private static void words() throws IOException {
        D.due("try and throw", brokenBy("int f() { try { throw null; } finally { } }"), "6");
        D.due("synchronized", brokenBy("synchronized void f() { }"), "6");
        D.due("a synchronized block", brokenBy("void f() { synchronized (this) { } }"), "6");
        D.due("assert", brokenBy("void f() { assert true; }"), "6");
        D.due("a method that throws", brokenBy("void f() throws Exception { }"), "6");
        D.due("a text of its own", brokenBy("public String toString() { return \"\"; }"), "6");
        D.due("one and the same text", brokenBy("boolean f(String a, String b) { return a == b; }"), "6");
        D.due("texts joined", brokenBy("String f(String a) { return a + 1; }"), "10");
        D.due("texts joined on", brokenBy("String f(String a) { String b = a; b += a; return b; }"), "10");
    }

    private static void loopsAndCalls() throws IOException {
        D.due("for ever", brokenBy("void f() { for (;;) { } }"), "9");
        D.due("while it is true", brokenBy("void f() { while (true) { } }"), "9");
        D.due("do while it is true", brokenBy("void f() { do { } while (true); }"), "9");
        D.due("a call of itself", brokenBy("int f() { return g(); } int g() { return f(); }"), "8");
        D.due("eight calls deep", brokenBy(chain(8)), "");
        D.due("nine calls deep", brokenBy(chain(9)), "11");
        D.due("nine calls deep from a field", brokenBy(chain(8) + " private final int some = f0();"), "11");
    }

    private static String chain(int calls) {
        StringBuilder text = new StringBuilder();
        for (int i = 0; i < calls; i++) {
            text.append("static int f").append(i).append("() { return ");
            text.append(i + 1 < calls ? "f" + (i + 1) + "()" : "1").append("; } ");
        }
        return text.toString();
    }

    private static void sizes() throws IOException {
        D.due("seven parameters", brokenBy("void f(int a, int b, int c, int d, int e, int g, int h) { }"), "");
        D.due("eight parameters", brokenBy("void f(int a, int b, int c, int d, int e, int g, int h, int i) { }"), "11");
        D.due("sixty lines", brokenBy("void f() {" + "\n".repeat(59) + "}"), "");
        D.due("sixty-one lines", brokenBy("void f() {" + "\n".repeat(60) + "}"), "11");
        D.due("twelve classes", brokenBy(classes(11)), "");
        D.due("thirteen classes", brokenBy(classes(12)), "11");
        D.due("twenty fields", brokenBy(fields(20)), "");
        D.due("twenty-one fields", brokenBy(fields(21)), "11");
    }

    private static String classes(int many) {
        StringBuilder text = new StringBuilder();
        for (int i = 0; i < many; i++) {
            text.append("private static class Part").append(i).append(" { } ");
        }
        return text.toString();
    }

    private static String fields(int many) {
        StringBuilder text = new StringBuilder("private static final int SOME = 1; ");
        for (int i = 0; i < many; i++) {
            text.append("private int f").append(i).append("; ");
        }
        return text.toString();
    }
}
