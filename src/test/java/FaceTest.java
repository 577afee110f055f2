import java.io.IOException;
import java.lang.reflect.Constructor;
import java.lang.reflect.Field;
import java.lang.reflect.Method;
import java.lang.reflect.Modifier;
import java.nio.file.Files;
import java.nio.file.Path;
import java.util.ArrayList;
import java.util.Collections;
import java.util.List;
import java.util.regex.Matcher;
import java.util.regex.Pattern;

/** The class's face is the document's and no more; its file keeps to those rules of LANGUAGE.md that a look can tell. */
public final class FaceTest {
    private static final String[] FACE = {
        "boolean mend(int, int)", "boolean open(int, int)", "boolean tank(int, int, int, int)", "boolean water(int, int)",
        "int breach(int)", "int count(int)", "int custom(int)", "int day(int)", "int dredge(int, int)", "int fault()",
        "int feed(int, int, int, int, int)", "int field(int, int, int, int, boolean)", "int fieldOf(int, int)",
        "int lost(int, int, int, int)", "int most(int, int, int, int, int)", "int order(int, int)", "int owner(int)",
        "int told(int, int)", "int tried(int, int, int)",
    };
    private static final String[] KEPT_OUT = {
        "\\bthrow\\b", "\\btry\\b", "\\bcatch\\b", "\\bsynchronized\\b", "\\bassert\\b", "->", "::", "\\bimport\\b",
        "\\bpackage\\b", "\\bvar\\b", "\\w+Exact\\b", "\\bSystem\\.(?!arraycopy)", "\\bThread\\b", "\\bdouble\\b",
        "\\bfloat\\b", "@\\w+", "static \\{", "\\bprotected\\b", "public (?!static final|final class|boolean|int|TankChain)",
    };

    public static void main(String[] args) throws IOException {
        aFinalPublicClass();
        membersOfTheFace();
        classesInside();
        List<String> lines = linesWithoutComments();
        nothingKeptOut(lines);
        shortMethodsOfFewParameters(lines);
        Due.close();
    }

    private static void aFinalPublicClass() {
        int modifiers = TankChain.class.getModifiers();
        Due.due("public", Modifier.isPublic(modifiers), true);
        Due.due("final", Modifier.isFinal(modifiers), true);
        Due.due("without a package", TankChain.class.getPackageName().isEmpty(), true);
    }

    private static String parameters(Class<?>[] types) {
        List<String> names = new ArrayList<>();
        for (Class<?> type : types) {
            names.add(type.getSimpleName());
        }
        return "(" + String.join(", ", names) + ")";
    }

    private static void membersOfTheFace() {
        List<String> found = new ArrayList<>();
        List<String> names = new ArrayList<>();
        for (Method one : TankChain.class.getDeclaredMethods()) {
            if (Modifier.isPrivate(one.getModifiers())) {
                names.add(one.getName());
            } else {
                found.add(one.getReturnType() + " " + one.getName() + parameters(one.getParameterTypes()));
                Due.due(one + " is public", Modifier.isPublic(one.getModifiers()), true);
                Due.due(one + " is static", Modifier.isStatic(one.getModifiers()), false);
            }
        }
        Collections.sort(found);
        Due.due("the face is " + found, found.equals(List.of(FACE)), true);
        for (String name : names) {
            Due.due("a private one bears the public name " + name, isOfTheFace(name), false);
        }
        for (Constructor<?> one : TankChain.class.getDeclaredConstructors()) {
            Due.due(one.toString(), parameters(one.getParameterTypes()).equals("(int)"), true);
            Due.due(one + " is public", Modifier.isPublic(one.getModifiers()), true);
        }
        for (Field one : TankChain.class.getDeclaredFields()) {
            Due.due(one + " is private", Modifier.isPrivate(one.getModifiers()), !one.getName().equals("NONE"));
        }
    }

    private static boolean isOfTheFace(String name) {
        for (String one : FACE) {
            if (one.contains(" " + name + "(")) {
                return true;
            }
        }
        return false;
    }

    private static void classesInside() {
        Class<?>[] inside = TankChain.class.getDeclaredClasses();
        Due.due("twelve classes at most", inside.length < 12, true);
        for (Class<?> one : inside) {
            Due.due(one + " is static", Modifier.isStatic(one.getModifiers()), true);
            Due.due(one + " is not public", Modifier.isPublic(one.getModifiers()), false);
            Due.due(one + " has twenty fields at most", one.getDeclaredFields().length <= 20, true);
            for (Method method : one.getDeclaredMethods()) {
                Due.due(method + " bears a public name", isOfTheFace(method.getName()), false);
            }
        }
    }

    private static List<String> linesWithoutComments() throws IOException {
        List<String> lines = new ArrayList<>();
        for (String line : Files.readAllLines(Path.of("src/main/java/TankChain.java"))) {
            String bare = line.trim();
            lines.add(bare.startsWith("//") || bare.startsWith("/*") || bare.startsWith("*") ? "" : line);
        }
        return lines;
    }

    private static void nothingKeptOut(List<String> lines) {
        for (String one : KEPT_OUT) {
            Pattern pattern = Pattern.compile(one);
            for (int i = 0; i < lines.size(); i++) {
                Due.due("line " + (i + 1) + " holds " + one, pattern.matcher(lines.get(i)).find(), false);
            }
        }
    }

    private static void shortMethodsOfFewParameters(List<String> lines) {
        Pattern head = Pattern.compile("^( {4}| {8})[A-Za-z].*\\((.*)\\) \\{$");
        int begin = -1;
        String indent = "";
        for (int i = 0; i < lines.size(); i++) {
            Matcher m = head.matcher(lines.get(i));
            if (begin < 0 && m.matches()) {
                begin = i;
                indent = m.group(1);
                Due.due("line " + (i + 1) + " has seven parameters at most", m.group(2).split(",").length <= 7, true);
            } else if (begin >= 0 && lines.get(i).equals(indent + "}")) {
                Due.due("the method in line " + (begin + 1) + " is short", i - begin <= 60, true);
                begin = -1;
            }
        }
        Due.due("every method's end was found", begin, -1);
    }
}
