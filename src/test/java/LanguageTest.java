import java.io.IOException;
import java.nio.file.Files;
import java.nio.file.Path;
import java.util.List;

/** The class keeps to ../shared/LANGUAGE.md; it is run from the project's folder. */
public final class LanguageTest {
    private final Due due = new Due("language");

    public static void main(String[] args) throws IOException {
        LanguageTest test = new LanguageTest();
        test.theClass(Files.readString(Path.of("src/main/java/TwoMetals.java")));
        test.membersThatBreakARule();
        test.filesThatBreakARule();
        test.due.finish();
    }

    private void theClass(String source) {
        due.holds("it was read", source.contains("public final class TwoMetals {"));
        for (String broken : LanguageRules.brokenIn(source)) {
            due.holds(broken, false);
        }
    }

    /** A rule that finds nothing wrong anywhere would tell nothing of the class. */
    private void membersThatBreakARule() {
        fine("private int a(int b) { int c = b; for (int i = 0; i < 9; i++) { c += i / 3; } return c; }");
        fine("private int c = 0; private int a(int b) { if (b <= 0) { return 0; } return 9 / (THOUSAND * b); }"
            + "private static final int THOUSAND = 1000;");
        fine("private void a(int b) { int c = 0; while (c < 9 && b > 0) { c++; } }");
        breaks(1, "public static class A { }");
        breaks(2, "private class A { }");
        breaks(2, "private void a() { class B { } }");
        breaks(2, "interface A { int b(); } private final A a = new A() { public int b() { return 1; } };");
        breaks(2, "interface A { int b(); } private final A a = () -> 1;");
        breaks(2, "interface A { int b(); } private static int c() { return 1; } private final A a = TwoMetals::c;");
        breaks(3, "private final Object a = null;");
        breaks(3, "private long[][] a() { return null; }");
        breaks(3, "private void a(double b) { }");
        breaks(4, "private long a() { return System.nanoTime(); }");
        breaks(4, "private int a(int b) { return Math.addExact(b, 1); }");
        breaks(4, "// \u00e9\n");
        breaks(5, "private static int a = 1;");
        breaks(5, "private static final int[] A = new int[3];");
        breaks(5, "static { }");
        breaks(6, "private void a() { throw new IllegalStateException(); }");
        breaks(6, "private void a() { try { a = 1; } finally { a = 2; } } private int a;");
        breaks(6, "private void a() { synchronized (this) { } }");
        breaks(6, "private synchronized void a() { }");
        breaks(6, "private void a() throws Exception { }");
        breaks(6, "private void a(int b) { assert b > 0; }");
        breaks(6, "interface A { } static final class B implements A { } private B a(A a) { return (B) a; }");
        breaks(6, "public int hashCode() { return 1; }");
        breaks(7, "private int a(int b) { return 5 / b; }");
        breaks(7, "private int a(int b) { return 5 % (b + 1); }");
        breaks(7, "private int a(int b) { int c = 7; c /= b; return c; }");
        breaks(8, "private int a(int b) { return b > 0 ? a(b - 1) : 0; }");
        breaks(8, "private int a(int b) { return c(b); } private int c(int d) { return d > 0 ? a(d - 1) : 0; }");
        breaks(9, "private void a() { while (true) { } }");
        breaks(9, "private void a() { for (;;) { } }");
        breaks(9, "private void a(int b) { for (int i = 0; i < 9; i++) { i = b; } }");
        breaks(9, "private void a(int b) { for (int i = 0; i < 9; i--) { } }");
        breaks(9, "private void a(int b) { for (int i = 0; i < 9 || b > 0; i++) { } }");
        breaks(9, "private void a(int b) { int c = 0; while (c < 9) { if (b > 0) { c++; } } }");
        breaks(9, "private void a(int b) { do { b = b + 1; } while (b < 9); }");
        breaks(11, "private void a(int b, int c, int d, int e, int f, int g, int h, int i) { }");
        breaks(11, "private void a(int b) {" + "b = 1;\n".repeat(60) + "}");
        breaks(11, "private int " + manyNames(21) + ";");
        breaks(11, chain(9));
        breaks(12, "private int[] a() { return new int[3]; }");
        breaks(12, "static final class A { } private A a() { return new A(); }");
    }

    private void filesThatBreakARule() {
        due.holds("a class that is not final", names(1, LanguageRules.brokenIn("public class TwoMetals { }")));
        due.holds("a package", names(1, LanguageRules.brokenIn("package a; public final class TwoMetals { }")));
        due.holds("two classes", names(1, LanguageRules.brokenIn("public final class TwoMetals { } class A { }")));
        due.holds("an import",
            names(4, LanguageRules.brokenIn("import java.util.Random; public final class TwoMetals { }")));
        due.holds("thirteen classes", names(11, brokenInMember(manyClasses(12))));
    }

    private static String manyNames(int n) {
        StringBuilder told = new StringBuilder("b0");
        for (int i = 1; i < n; i++) {
            told.append(", b").append(i);
        }
        return told.toString();
    }

    private static String manyClasses(int n) {
        StringBuilder told = new StringBuilder();
        for (int i = 0; i < n; i++) {
            told.append("private static final class C").append(i).append(" { } ");
        }
        return told.toString();
    }

    /** Methods of which each calls the next. */
    private static String chain(int n) {
        StringBuilder told = new StringBuilder("private void a0() { }");
        for (int i = 1; i < n; i++) {
            told.append(" private void a").append(i).append("() { a").append(i - 1).append("(); }");
        }
        return told.toString();
    }

    private static List<String> brokenInMember(String member) {
        return LanguageRules.brokenIn("public final class TwoMetals { " + member + " }");
    }

    private static boolean names(int rule, List<String> broken) {
        return broken.stream().anyMatch(line -> line.startsWith("rule " + rule + ":"));
    }

    private void fine(String member) {
        List<String> broken = brokenInMember(member);
        due.holds("nothing is wrong with " + member + " but it says " + broken, broken.isEmpty());
    }

    private void breaks(int rule, String member) {
        List<String> broken = brokenInMember(member);
        due.holds("rule " + rule + " is broken by " + member + " but it says " + broken, names(rule, broken));
    }
}
