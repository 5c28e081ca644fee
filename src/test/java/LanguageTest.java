import java.io.IOException;
import java.nio.file.Files;
import java.nio.file.Path;
import java.util.List;

/** The class keeps to ../shared/LANGUAGE.md, as far as its rules can be read off the source. */
public final class LanguageTest {
    private static final Due due = new Due();
    private static final String AHEAD = "public final class FaceRounds {\n";

    public static void main(String[] args) throws IOException {
        due.in("FaceRounds.java");
        List<String> faults = LanguageRules.faultsOf(Files.readString(Path.of("src/main/java/FaceRounds.java")));
        due.of("faults " + faults, faults.size(), 0);
        due.in("what is allowed");
        allowed("private final int[] a = new int[3]; public int b() { return Math.floorMod(a[0], 5); }");
        allowed("private static final int[] A = {1, 2}; private static final String B = \"b\";");
        allowed("private static final class A { int b; private int c() { return b; } }");
        due.in("what is not");
        members();
        words();
        library();
        sizes();
        due.end();
    }

    private static void allowed(String body) throws IOException {
        List<String> faults = LanguageRules.faultsOf(AHEAD + body + "\n}\n");
        due.of(body + " has " + faults, faults.size(), 0);
    }

    private static void refused(int rule, String body) throws IOException {
        refusedWhole(rule, AHEAD + body + "\n}\n");
    }

    /** That rule's fault, and no other one. */
    private static void refusedWhole(int rule, String source) throws IOException {
        List<String> faults = LanguageRules.faultsOf(source);
        boolean fits = !faults.isEmpty();
        for (String fault : faults) {
            fits &= fault.startsWith("rule " + rule + ":");
        }
        due.of("rule " + rule + " in " + source + " has " + faults, fits ? 1 : 0, 1);
    }

    private static void members() throws IOException {
        refusedWhole(0, "package a;\n" + AHEAD + "}\n");
        refusedWhole(0, AHEAD + "}\nfinal class Other { }\n");
        refusedWhole(1, "public class FaceRounds { }\n");
        refused(1, "int a;");
        refused(1, "protected void a() { }");
        refused(1, "public int a() { return 1; } private int a(int b) { return b; }");
        refused(2, "private final class A { }");
        refused(2, "public static final class A { }");
        refused(2, "private void a() { class B { } }");
        refused(3, "private double a;");
        refused(3, "private Object a;");
        refused(3, "private int[][][] a;");
        refused(3, "private String[] a;");
        refused(5, "private static int a = 1;");
        refused(5, "private static final StringBuilder A = new StringBuilder();");
        refused(5, "private static final int[] A = new int[3];");
        refused(5, "static { }");
    }

    private static void words() throws IOException {
        refused(6, "private int a(int b) { synchronized (this) { return b; } }");
        refused(6, "private int a(int b) { assert b > 0; return b; }");
        refused(6, "private int a(int b) { try { return 1 / b; } finally { } }");
        refused(6, "private int a() { throw null; }");
        refused(6, "private boolean a(String b, String c) { return b == c; }");
        refused(6, "public int hashCode() { return 1; }");
        refused(8, "private int a(int b) { return b == 0 ? 0 : a(b - 1); }");
        refused(8, "private int a(int b) { return c(b); } private int c(int b) { return a(b); }");
        refused(10, "private String a(String b) { return b + 1; }");
        refused(10, "private String a(String b) { String c = b; c += 1; return c; }");
    }

    private static void library() throws IOException {
        refusedWhole(4, "import java.util.HashMap;\n" + AHEAD + "}\n");
        refused(4, "private int a(int b) { return Math.addExact(b, 1); }");
        refused(4, "private long a() { return System.nanoTime(); }");
        refused(4, "private void a() { System.out.println(); }");
        refused(4, "private int a(String b) { return b.hashCode(); }");
        refused(4, "private final int a = new java.util.Random().nextInt();");
        refused(4, "private static final char A = '" + (char) 233 + "';");
        refused(12, "private int[] a(int b) { return b < 0 ? null : new int[b]; }");
        refused(12, "private StringBuilder a() { return new StringBuilder(); }");
    }

    private static void sizes() throws IOException {
        refused(11, "private int a(int b, int c, int d, int e, int f, int g, int h, int i) { return b; }");
        allowed("private void a() {\n" + ";\n".repeat(58) + "}");
        refused(11, "private void a() {\n" + ";\n".repeat(59) + "}");
        StringBuilder deep = new StringBuilder("private int a0() { return 1; }\n");
        for (int i = 1; i < 9; i++) {
            deep.append("private int a").append(i).append("() { return a").append(i - 1).append("(); }\n");
        }
        refused(11, deep.toString());
        StringBuilder fields = new StringBuilder();
        StringBuilder classes = new StringBuilder();
        for (int i = 0; i < 21; i++) {
            fields.append("private int a").append(i).append(";\n");
            classes.append("private static final class A").append(i).append(" { }\n");
        }
        refused(11, fields.toString());
        refused(11, classes.toString());
    }
}
