import java.io.IOException;
import java.nio.file.Files;
import java.nio.file.Path;

/**
 * Looks over the source for what LANGUAGE.md does not allow (see LanguageRules), and looks whether the looking over
 * finds what it must: each row of ILL is put into a class by itself, and must be reported with its rule.
 */
public final class LanguageTest {
    private static final Path SOURCE = Path.of("src/main/java/SquaredPaper.java");
    private static final int LONGEST_LINE = 130;
    private static final String FINE = "public final class Ill { private int a; private final int[] row; private static final int TWO = 2;"
        + " public Ill() { row = new int[TWO]; }"
        + " public int next(int b) throws IllegalArgumentException { if (b < 0) { throw new IllegalArgumentException(\"below 0\"); }"
        + " for (int i = 0; i < row.length; i++) { a += Math.max(row[i], b); } return a / TWO; }";
    private static final String[][] ILL = {
        {"rule 1", "protected int f() { return 0; }"},
        {"rule 1", "int f() { return 0; }"},
        {"rule 1", "int f;"},
        {"rule 1", "private int next() { return 0; }"},
        {"rule 1", "private static final class In { int next() { return 0; } }"},
        {"rule 1", "public static final class In { }"},
        {"rule 1", "} class Other {"},
        {"rule 2", "private final class In { }"},
        {"rule 2", "private int f() { Comparable<Ill> c = x -> 0; return 0; }"},
        {"rule 2", "private Comparable<Integer> f() { return Integer.valueOf(1)::compareTo; }"},
        {"rule 2", "private int f() { class In { } return 0; }"},
        {"rule 3", "private int f(Object o) { return 0; }"},
        {"rule 3", "private int[][][] f() { return null; }"},
        {"rule 3", "private java.util.Map<Integer, Integer> f;"},
        {"rule 3", "private int f() { return \"\\u0101\".length(); }"},
        {"rule 4", "private int f(int b) { return Math.addExact(a, b); }"},
        {"rule 4", "private int f() { return row.hashCode(); }"},
        {"rule 4", "private long f() { return System.nanoTime(); }"},
        {"rule 5", "private static int f;"},
        {"rule 5", "private static final int F = Math.max(1, 2);"},
        {"rule 5", "static { }"},
        {"rule 6", "private int f() { throw new ArithmeticException(\"none\"); }"},
        {"rule 6", "private int f() { throw new IllegalStateException(\"a\" + a); }"},
        {"rule 6", "private int f(IllegalStateException e) { throw e; }"},
        {"rule 6", "private Ill(int b) { row = null; throw new IllegalStateException(\"none\"); }"},
        {"rule 6", "private int f() { try { return next(1); } catch (IllegalArgumentException e) { return 0; } }"},
        {"rule 6", "private int f() { synchronized (this) { return 0; } }"},
        {"rule 6", "private int f() { assert a > 0; return 0; }"},
        {"rule 7", "private int f(int b) { return a / (b + 1); }"},
        {"rule 7", "private int f(int b) { a %= (b + 1); return a; }"},
        {"rule 7", "private int f() { return a / 0; }"},
        {"rule 8", "private int f(int b) { return b == 0 ? 0 : f(b - 1); }"},
        {"rule 8", "private int f(int b) { return b == 0 ? 0 : g(b - 1); } private int g(int b) { return f(b); }"},
        {"rule 9", "private int f() { while (a > 0) { a--; } return a; }"},
        {"rule 9", "private int f() { do { a--; } while (a > 0); return a; }"},
        {"rule 9", "private int f() { for (;;) { a--; } }"},
        {"rule 9", "private int f() { for (int i = 0; a < 9; i++) { a--; } return a; }"},
        {"rule 9", "private int f() { for (int i = 0; i < 9; i++) { i = a; } return a; }"},
        {"rule 9", "private int f() { for (int i = 0; i < 9; a++) { a--; } return a; }"},
        {"rule 10", "private String f() { return \"a\" + a; }"},
        {"rule 11", "private int f(int a, int b, int c, int d, int e, int g, int h, int i) { return 0; }"},
        {"rule 11", "private int f() { " + "\n".repeat(61) + " return 0; }"},
        {"rule 11", "private int " + fields(20) + ";"},
        {"rule 11", classes(12)},
        {"rule 11", chain(9)},
        {"rule 12", "private int f() { int[] made = new int[9]; return made.length; }"},
        {"rule 12", "private int f() { int[] made = {1, 2}; return made.length; }"},
        {"rule 12", "private Ill f() { return new Ill(); }"},
        {"rule 12", "private int[] f() { return row.clone(); }"},
        {"rule 13", "private Thread f;"},
    };

    public static void main(String[] args) throws IOException {
        Check check = new Check();
        String source = Files.readString(SOURCE);
        for (String report : LanguageRules.reportsOf("SquaredPaper", source)) {
            check.report(report);
        }
        String[] lines = source.split("\n");
        for (int i = 0; i < lines.length; i++) {
            if (lines[i].length() > LONGEST_LINE) {
                check.report("line " + (i + 1) + " is too long");
            }
        }
        check.same("the reports of what is fine", "[]", LanguageRules.reportsOf("Ill", FINE + chain(8) + "}").toString());
        for (String[] row : ILL) {
            String reports = String.join("\n", LanguageRules.reportsOf("Ill", FINE + row[1] + "}"));
            check.same(row[1] + " is reported by " + row[0] + ": " + reports, true, reports.contains(row[0] + ":"));
        }
        check.end();
    }

    private static String fields(int count) {
        StringBuilder out = new StringBuilder("f0");
        for (int i = 1; i < count; i++) {
            out.append(", f").append(i);
        }
        return out.toString();
    }

    private static String classes(int count) {
        StringBuilder out = new StringBuilder();
        for (int i = 0; i < count; i++) {
            out.append("private static final class C").append(i).append(" { }");
        }
        return out.toString();
    }

    /** So many methods that call one another. */
    private static String chain(int count) {
        StringBuilder out = new StringBuilder();
        for (int i = 1; i < count; i++) {
            out.append("private static int f").append(i).append("() { return f").append(i + 1).append("(); }");
        }
        return out.append("private static int f").append(count).append("() { return 0; }").toString();
    }
}
