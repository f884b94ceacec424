import java.io.IOException;
import java.nio.file.Files;
import java.nio.file.Path;
import java.util.List;

/** The class keeps to LANGUAGE.md, and the check that says so finds a breach of each rule that it looks at. */
public final class LanguageTest {
    private static final Path CLASS = Path.of("src/main/java/HybridTables.java");

    public static void main(String[] args) throws IOException {
        Checks.due("the faults of " + CLASS, Language.faultsOf(Files.readString(CLASS)).toString(), "[]");
        Checks.due("the faults of a plain class", Language.faultsOf(
                inClass("private static final int N = 2; private final int[] a = new int[N];"
                        + "public int f(int i) { int s = 0; while (s < i) { s += g(s); } return s; }"
                        + "private int g(int i) { return i >= 0 && i < N ? a[i] : (int) 1L; }")).toString(), "[]");
        members();
        arrays();
        statements();
        calls();
        Checks.end();
    }

    private static void members() throws IOException {
        breach(1, "package p; " + inClass(""));
        breach(1, inClass("") + " final class Other { }");
        breach(1, inClass("private static class Inner { }"));
        breach(1, inClass("private enum Inner { A }"));
        breach(2, inClass("private double d = 0;"));
        breach(2, inClass("private float f() { return 0; }"));
        breach(2, inClass("private void f(String s) { }"));
        breach(2, inClass("private int[][] a;"));
        breach(3, "import java.util.Arrays; " + inClass(""));
        breach(3, inClass("private int f() { return Math.abs(1); }"));
        breach(3, inClass("private int f() { return hashCode(); }"));
        breach(3, inClass("private int f() { return Integer.MAX_VALUE; }"));
        breach(5, inClass("private static int f = 0;"));
        breach(5, inClass("private static final char F = 'a';"));
        breach(5, inClass("private static final int[] F = new int[1];"));
        breach(5, inClass("static { }"));
        breach(10, inClass("private int f;".repeat(41).replace("f;", "f = 0;")));
    }

    private static void arrays() throws IOException {
        breach(4, inClass("private final int[] a;"));
        breach(4, inClass("private int[] a = new int[1];"));
        breach(4, inClass("private final int[] a = new int[0];"));
        breach(4, inClass("private final int[] a = {1, 2};"));
        breach(4, inClass("private int n = 3; private final int[] a = new int[n];"));
        breach(4, inClass("private void f() { int[] a = new int[1]; }"));
        breach(4, inClass("private final int[] a = new int[1]; private int[] f() { return a; }"));
        breach(4, inClass("private final int[] a = new int[1]; private boolean f() { return a == a; }"));
    }

    private static void statements() throws IOException {
        breach(6, inClass("private void f() { throw null; }"));
        breach(6, inClass("private void f() { try { } finally { } }"));
        breach(6, inClass("private void f() { synchronized (this) { } }"));
        breach(6, inClass("private void f(int i) { assert i > 0; }"));
        breach(6, inClass("private void f() { g(() -> 1); } private void g(int i) { }"));
        breach(6, inClass("private void f() { g(this::f); } private void g(int i) { }"));
        breach(6, inClass("private boolean f() { return this instanceof HybridTables; }"));
        breach(6, inClass("private void f() { g(\"s\"); } private void g(int i) { }"));
        breach(6, inClass("private void f() { g(new HybridTables(4)); } private void g(int i) { }"));
        breach(2, inClass("private int f() { return (int) (Integer) 1; }"));
        breach(8, inClass("private void f() { for (;;) { } }"));
        breach(8, inClass("private void f() { while (true) { } }"));
        breach(8, inClass("private void f() { do { } while (true); }"));
    }

    private static void calls() throws IOException {
        breach(8, inClass("private void f() { f(); }"));
        breach(8, inClass("private void f() { g(); } private void g() { h(); } private void h() { f(); }"));
        breach(10, inClass("private void f(int a, int b, int c, int d, int e, int g, int h, int i) { }"));
        breach(10, inClass("private int f(int i) { return i; } private int g() { return f(1 + f(2)); }"));
        breach(10, inClass("private void f() {" + "\n".repeat(60) + "}"));
        StringBuilder deep = new StringBuilder("private void f7() { }");
        for (int i = 1; i < 7; i++) {
            deep.append("private void f").append(i).append("() { f").append(i + 1).append("(); }");
        }
        breach(10, inClass(deep.toString()));
    }

    private static String inClass(String members) {
        return "public final class HybridTables { " + members + " }";
    }

    private static void breach(int rule, String source) throws IOException {
        List<String> faults = Language.faultsOf(source);
        boolean found = faults.stream().anyMatch(fault -> fault.startsWith("rule " + rule + ":"));
        Checks.due("rule " + rule + " is found broken, not " + faults + ", in " + source.strip(), found, true);
    }
}
