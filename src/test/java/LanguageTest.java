import java.io.IOException;
import java.nio.file.Files;
import java.nio.file.Path;
import java.util.List;

/** The rules of LANGUAGE.md, and that a class which breaks one of them would be noticed. */
public final class LanguageTest {
    private static final Path CLASS = Path.of("src", "main", "java", "WeightedWords.java");

    public static void main(String[] args) throws IOException {
        Due.same("faults", Language.faults(Files.readString(CLASS)), List.of());
        goodExamples();
        fileAndTypes();
        arrays();
        statementsAndLoops();
        calls();
        Due.end();
    }

    private static void good(String members) {
        String text = "public final class Text {\n" + members + "\n}\n";
        Due.same(members, Language.faults(text), List.of());
    }

    private static void bad(int rule, String members) {
        badFile(rule, "public final class Text {\n" + members + "\n}\n");
    }

    private static void badFile(int rule, String text) {
        List<String> faults = Language.faults(text);
        boolean isJava = faults.stream().noneMatch(fault -> fault.startsWith("0: "));
        Due.same("is Java: " + text, isJava, true);
        boolean found = faults.stream().anyMatch(fault -> fault.startsWith(rule + ": "));
        Due.same("rule " + rule + " broken by " + text + " which gave " + faults, found, true);
    }

    private static String inMethod(String statements) {
        return "private static final int MOST = 4; private final int[] cells = new int[MOST];"
            + " private void work(int a, int[] row) { " + statements + " }";
    }

    private static void goodExamples() {
        good("");
        good("private int[] row; public Text() { row = new int[3]; }");
        good("private static final long BIG = 1L << 40; private static final int TWO = 1 + 1;");
        good("private static final int MOST = 4; private int f(long a) { return (int) a % MOST; }");
        good("private int f(int a) { return a; } public int g(int a) { return f(a) + f(a); }");
        good(inMethod("for (int i = 0; i < row.length; i++) { row[i] = cells[0]; }"));
        good(inMethod("for (int i = a; i >= 0; i--) { if (i == 3) { break; } }"));
        good(inMethod("switch (a) { case 1: cells[0] = 'x'; break; default: cells[1] = 2; }"));
        good(inMethod("boolean odd = (a & 1) == 1; cells[0] = odd ? 1 : 0;"));
    }

    private static void fileAndTypes() {
        badFile(1, "package words; public final class Text { }");
        badFile(1, "public final class Text { } class Other { }");
        badFile(1, "public class Text { }");
        badFile(1, "public final record Text(int a) { }");
        badFile(2, "public final class Text implements Runnable { }");
        badFile(3, "import java.util.List; public final class Text { }");
        bad(1, "private static final class Inner { }");
        bad(1, "private enum Inner { ONE }");
        bad(1, "int open;");
        bad(2, "private double part;");
        bad(2, "private String name;");
        bad(2, "private int[][] table;");
        bad(2, "private double f() { return 1; }");
        bad(2, "private void f(Object a) { }");
        bad(2, inMethod("var b = a;"));
        bad(2, inMethod("a = (int) (a * 1.5);"));
        bad(2, inMethod("a = (int) (float) a;"));
        bad(3, inMethod("a = Math.abs(a);"));
        bad(3, inMethod("a = Integer.MAX_VALUE;"));
        bad(3, inMethod("a = hashCode();"));
        bad(3, inMethod("a = this.hashCode();"));
        bad(3, inMethod("a = row.clone().length;"));
        bad(3, "@Override public int f() { return 1; }");
        bad(5, "private static int count = 0;");
        bad(5, "private static final int[] ROW = new int[3];");
        bad(5, "private static final boolean YES = true;");
        bad(5, "private static final int ONE; static { ONE = 1; }");
        bad(5, "private static int f() { return 1; } private static final int ONE = f();");
    }

    private static void arrays() {
        bad(4, inMethod("int[] more = new int[3];"));
        bad(4, inMethod("int[] more = {1, 2};"));
        bad(4, inMethod("work(a, new int[3]);"));
        bad(4, inMethod("new Text();"));
        bad(4, inMethod("row = cells;"));
        bad(4, inMethod("cells = row;"));
        bad(4, inMethod("a = row == cells ? 1 : 0;"));
        bad(4, inMethod("int[] more = null;"));
        bad(4, "private final int[] row = new int[0];");
        bad(4, "private final int[] row = {1, 2};");
        bad(4, "private int most = 3; private final int[] row = new int[most];");
        bad(4, "private int[] row; private int[] f() { return row; }");
        bad(4, "private int[] row; public Text() { if (1 < 2) { row = new int[3]; } }");
        bad(4, "private int[] row; private void f() { row = new int[3]; }");
        bad(4, "private void f() { } public Text() { f(); }");
    }

    private static void statementsAndLoops() {
        bad(6, inMethod("throw null;"));
        bad(6, inMethod("try { a = 1; } finally { a = 2; }"));
        bad(6, inMethod("synchronized (this) { a = 1; }"));
        bad(6, inMethod("assert a == 1;"));
        bad(6, inMethod("a = this instanceof Text ? 1 : 2;"));
        bad(6, inMethod("Runnable run = () -> { };"));
        bad(6, inMethod("Runnable run = this::hashCode;"));
        bad(6, inMethod("a = ((int[]) row)[0];"));
        bad(6, "private void f() throws Exception { }");
        bad(7, inMethod("a = 5 / a;"));
        bad(7, inMethod("a %= a;"));
        bad(8, inMethod("while (a > 0) { a--; }"));
        bad(8, inMethod("do { a--; } while (a > 0);"));
        bad(8, inMethod("for (;;) { a++; }"));
        bad(8, inMethod("for (int i = 0; i < a; i--) { row[0] = i; }"));
        bad(8, inMethod("for (int i = 0; i < a; i++) { i--; }"));
        bad(8, inMethod("for (int i = 0; i < a; i++) { a += 1; }"));
        bad(8, inMethod("for (int i = 0; i < row[0]; i++) { row[0] = i + 2; }"));
        bad(8, inMethod("for (int i = 0; a < 4; i++) { row[0] = i; }"));
    }

    private static void calls() {
        bad(8, "private int f(int a) { return f(a); }");
        bad(8, "private int f(int a) { return g(a); } private int g(int a) { return f(a); }");
        bad(10, "private void f(int a, int b, int c, int d, int e, int g, int h, int i) { }");
        bad(10, "private int f(int a) { return a; } private int g(int a) { return f(f(a)); }");
        bad(10, "private int f(int a) { return a; } private int g(int a) { return f(1 + f(a)); }");
        bad(10, "private void f(int a) {" + "\na++;".repeat(60) + "\n}");
        StringBuilder deep = new StringBuilder("private void f7() { }");
        StringBuilder many = new StringBuilder();
        for (int i = 1; i <= 6; i++) {
            deep.append(" private void f" + i + "() { f" + (i + 1) + "(); }");
        }
        for (int i = 0; i <= 40; i++) {
            many.append(" private int a" + i + ";");
        }
        bad(10, deep.toString());
        bad(10, many.toString());
    }
}
