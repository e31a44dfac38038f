import java.io.IOException;
import java.lang.reflect.Constructor;
import java.lang.reflect.Field;
import java.lang.reflect.Member;
import java.lang.reflect.Method;
import java.lang.reflect.Modifier;
import java.nio.file.Files;
import java.nio.file.Path;
import java.util.ArrayList;
import java.util.Arrays;
import java.util.Collections;
import java.util.List;

/** The class has the face of the document, and no other member that is not private. */
public final class FaceTest {
    private static final String INDEX = "IndexOutOfBoundsException";
    private static final String ARGUMENT = "IllegalArgumentException";
    private static final String STATE = "IllegalStateException";
    private static final String[] FACE = {
        "int append(int) " + ARGUMENT + " " + STATE,
        "int clearText()",
        "int errorPosition()",
        "int load() " + STATE,
        "int about(int) " + ARGUMENT,
        "int ring(int, int) " + INDEX + " " + ARGUMENT,
        "int corner(int, int, int) " + INDEX + " " + ARGUMENT,
        "int point(int, int) " + ARGUMENT,
        "boolean sees(int, int, int, int) " + INDEX,
        "int move(int, int, int, int) " + INDEX + " " + STATE,
        "int insert(int, int, int, int) " + INDEX + " " + STATE,
        "int remove(int, int) " + INDEX + " " + STATE,
        "int addHole(int, int) " + ARGUMENT + " " + STATE,
        "int dropHole(int) " + INDEX + " " + STATE,
        "int shift(int, int) " + ARGUMENT + " " + STATE,
        "int turn()",
        "int mirror()",
        "int undo() " + STATE,
        "int whyNot(int, int, int, int) " + INDEX,
        "int cut(int) " + INDEX,
        "int bestMove()",
        "int inRow(int, boolean) " + ARGUMENT,
        "int cuttings()",
        "int runScript(int, long) " + ARGUMENT,
        "int simulate(long, int) " + ARGUMENT,
        "int save(int) " + INDEX,
        "int restore(int) " + INDEX + " " + STATE,
    };

    public static void main(String[] args) throws IOException {
        Check check = new Check();
        Class<?> paper = SquaredPaper.class;
        check.same("the class's modifiers", "public final", Modifier.toString(paper.getModifiers()));
        List<String> due = new ArrayList<>(Arrays.asList(FACE));
        List<String> got = new ArrayList<>();
        List<String> names = new ArrayList<>();
        for (Method m : paper.getDeclaredMethods()) {
            if (seen(m)) {
                check.same("the modifiers of " + m.getName(), Modifier.PUBLIC, m.getModifiers());
                got.add(signature(m));
                names.add(m.getName());
            }
        }
        Collections.sort(due);
        Collections.sort(got);
        check.same("the methods", due, got);
        for (Constructor<?> c : paper.getDeclaredConstructors()) {
            check.same("a constructor", "public SquaredPaper()", c.toString());
        }
        for (Field f : paper.getDeclaredFields()) {
            if (seen(f)) {
                check.same("a field", "public static final int SquaredPaper.NONE", f.toString());
            }
        }
        checkInside(check, paper, names);
        checkWords(check);
        check.end();
    }

    /** The document writes the face as the source does, with the names of the arguments and in the same order. */
    private static void checkWords(Check check) throws IOException {
        List<String> due = linesOfTheFace(Path.of("../shared/DOC.md"));
        check.same("the face of the document has " + FACE.length + " methods, a constructor and a constant", FACE.length + 2, due.size());
        check.same("the face in the source", String.join("\n", due), String.join("\n", linesOfTheFace(Path.of("src/main/java/SquaredPaper.java"))));
    }

    private static List<String> linesOfTheFace(Path file) throws IOException {
        List<String> lines = new ArrayList<>();
        for (String line : Files.readAllLines(file)) {
            if (line.startsWith("    public ")) {
                lines.add(line.replaceFirst(" \\{$", ";"));
            }
        }
        return lines;
    }

    private static boolean seen(Member m) {
        return !m.isSynthetic() && !Modifier.isPrivate(m.getModifiers());
    }

    private static String signature(Method m) {
        StringBuilder out = new StringBuilder(m.getReturnType().getName() + " " + m.getName() + "(");
        for (Class<?> c : m.getParameterTypes()) {
            out.append(out.charAt(out.length() - 1) == '(' ? "" : ", ").append(c.getName());
        }
        out.append(")");
        for (Class<?> c : m.getExceptionTypes()) {
            out.append(" ").append(c.getSimpleName());
        }
        return out.toString();
    }

    /** Also a method of an inner class bears no name of the face. */
    private static void checkInside(Check check, Class<?> paper, List<String> names) {
        for (Class<?> inner : paper.getDeclaredClasses()) {
            check.same(inner.getName() + " is static", true, Modifier.isStatic(inner.getModifiers()));
            check.same(inner.getName() + " is public", false, Modifier.isPublic(inner.getModifiers()));
            check.same("the fields of " + inner.getName() + " are few", true, inner.getDeclaredFields().length <= 20);
            for (Method m : inner.getDeclaredMethods()) {
                check.same(inner.getName() + "." + m.getName() + " is a name of the face", false, names.contains(m.getName()));
            }
        }
        for (Method m : paper.getDeclaredMethods()) {
            if (!seen(m)) {
                check.same("private " + m.getName() + " is a name of the face", false, names.contains(m.getName()));
            }
        }
    }
}
