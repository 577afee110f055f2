import java.io.IOException;
import java.lang.reflect.Constructor;
import java.lang.reflect.Field;
import java.lang.reflect.Method;
import java.lang.reflect.Modifier;
import java.nio.file.Files;
import java.nio.file.Path;
import java.util.ArrayList;
import java.util.List;
import java.util.Map;
import java.util.Set;
import java.util.TreeMap;
import java.util.TreeSet;
import java.util.regex.Matcher;
import java.util.regex.Pattern;

/** Rules 2 to 12 of LANGUAGE.md as far as a look at the class and its file can tell; FaceTest has rules 1, 6 and 13. */
public final class LanguageTest {
    private static final Set<Class<?>> NUMBERS =
        Set.of(int.class, long.class, short.class, byte.class, char.class, boolean.class);
    private static final Set<String> OF_THE_LIBRARY = Set.of("Math", "String");
    private static final Set<String> OF_MATH = Set.of("max", "min");
    private static final Set<String> NO_CALLS = Set.of("if", "for", "while", "switch", "return", "super", "this");
    private static final int DEEPEST = 8;

    private final List<Class<?>> own = new ArrayList<>();
    private final List<String> lines = new ArrayList<>();
    private final Map<String, StringBuilder> bodies = new TreeMap<>();
    private final Map<String, Integer> depths = new TreeMap<>();

    private LanguageTest() throws IOException {
        own.add(TankChain.class);
        own.addAll(List.of(TankChain.class.getDeclaredClasses()));
        for (String line : Files.readAllLines(Path.of("src/main/java/TankChain.java"))) {
            String bare = line.trim();
            lines.add(bare.startsWith("//") || bare.startsWith("/*") || bare.startsWith("*") ? "" : line);
        }
        findBodies();
    }

    public static void main(String[] args) throws IOException {
        LanguageTest test = new LanguageTest();
        test.noOtherClasses();
        test.fieldsOfTypesThatStand();
        test.parametersOfTypesThatStand();
        test.libraryThatStands();
        test.loopsWithAnEnd();
        test.textsAsTheyMayBe();
        test.objectsMadeInFewPlaces();
        test.callsAreNoRecursion();
        Due.close();
    }

    private void noOtherClasses() {
        Due.due("classes without a name or inside a method", TankChain.class.getNestMembers().length, own.size());
        Due.due("twelve classes at most", own.size() <= 12, true);
        for (Class<?> one : own) {
            int inside = one == TankChain.class ? own.size() - 1 : 0;
            Due.due("classes inside " + one, one.getDeclaredClasses().length, inside);
        }
    }

    private boolean stands(Class<?> type) {
        Class<?> part = type.isArray() ? type.getComponentType() : type;
        if (part.isArray()) {
            return NUMBERS.contains(part.getComponentType());
        }
        return NUMBERS.contains(part) || part == String.class || own.contains(part);
    }

    private void fieldsOfTypesThatStand() {
        for (Class<?> one : own) {
            int ofAnObject = 0;
            for (Field field : one.getDeclaredFields()) {
                boolean isStatic = Modifier.isStatic(field.getModifiers());
                ofAnObject += isStatic ? 0 : 1;
                Due.due(field + " is of a type that stands", stands(field.getType()), true);
                if (isStatic) {
                    Due.due(field + " is final", Modifier.isFinal(field.getModifiers()), true);
                    Due.due(field + " is a constant", field.getType() == int.class, true);
                }
            }
            Due.due(one + " has twenty fields at most", ofAnObject <= 20, true);
        }
    }

    private void parametersOfTypesThatStand() {
        for (Class<?> one : own) {
            for (Method method : one.getDeclaredMethods()) {
                Class<?> answer = method.getReturnType();
                Due.due(method + " answers a type that stands", answer == void.class || stands(answer), true);
                parametersStand(method.toString(), method.getParameterTypes());
            }
            for (Constructor<?> made : one.getDeclaredConstructors()) {
                parametersStand(made.toString(), made.getParameterTypes());
            }
        }
    }

    private void parametersStand(String name, Class<?>[] types) {
        Due.due(name + " has seven parameters at most", types.length <= 7, true);
        for (Class<?> type : types) {
            Due.due(name + " takes types that stand", stands(type), true);
        }
    }

    /** Every name with a capital is one of the class's own or of the few of the library. */
    private void libraryThatStands() {
        Set<String> names = new TreeSet<>(OF_THE_LIBRARY);
        for (Class<?> one : own) {
            names.add(one.getSimpleName());
        }
        Pattern capital = Pattern.compile("\\b([A-Z][a-z]\\w*)(?:\\.(\\w+))?");
        for (int i = 0; i < lines.size(); i++) {
            Matcher m = capital.matcher(lines.get(i));
            while (m.find()) {
                Due.due("line " + (i + 1) + " may name " + m.group(1), names.contains(m.group(1)), true);
                boolean known = !m.group(1).equals("Math") || OF_MATH.contains(m.group(2));
                Due.due("line " + (i + 1) + " may call " + m.group(), known, true);
            }
        }
    }

    private void loopsWithAnEnd() {
        Pattern endless = Pattern.compile("while \\(true\\)|for \\([^;]*; *;|\\bdo \\{|\\bgoto\\b");
        for (int i = 0; i < lines.size(); i++) {
            Due.due("line " + (i + 1) + " has no end", endless.matcher(lines.get(i)).find(), false);
        }
    }

    /** Signs of 1 to 127 alone, and no text joined by +. */
    private void textsAsTheyMayBe() {
        Pattern joined = Pattern.compile("\" *\\+|\\+ *\"");
        for (int i = 0; i < lines.size(); i++) {
            boolean plain = lines.get(i).chars().allMatch(sign -> sign >= 32 && sign < 127);
            Due.due("line " + (i + 1) + " is of plain signs", plain, true);
            Due.due("line " + (i + 1) + " joins texts", joined.matcher(lines.get(i)).find(), false);
        }
    }

    /** What is made is made with the object, but for a field, of which there are forty at most. */
    private void objectsMadeInFewPlaces() {
        Set<String> makers = new TreeSet<>();
        for (Map.Entry<String, StringBuilder> one : bodies.entrySet()) {
            if (Pattern.compile("\\bnew\\b").matcher(one.getValue()).find()) {
                makers.add(one.getKey());
            }
        }
        Due.due("made in " + makers, makers.equals(Set.of("TankChain", "field")), true);
    }

    private void findBodies() {
        Pattern head = Pattern.compile("^( {4}| {8})(?:[\\w\\[\\]]+ )*(\\w+)\\(.*\\) \\{$");
        String indent = null;
        String name = "";
        for (String line : lines) {
            Matcher m = head.matcher(line);
            if (indent == null && m.matches()) {
                indent = m.group(1);
                name = m.group(2);
                bodies.putIfAbsent(name, new StringBuilder());
            } else if (indent != null && line.equals(indent + "}")) {
                indent = null;
            } else if (indent != null) {
                bodies.get(name).append(line).append('\n');
            }
        }
    }

    /** Methods of one name are taken as one: what is no recursion so is none at all. */
    private void callsAreNoRecursion() {
        Set<String> missing = new TreeSet<>();
        for (Class<?> one : own) {
            for (Method method : one.getDeclaredMethods()) {
                if (!bodies.containsKey(method.getName())) {
                    missing.add(method.getName());
                }
            }
        }
        Due.due("every method's lines were found, but for " + missing, missing.isEmpty(), true);
        for (String name : bodies.keySet()) {
            Due.due(name + " goes at most eight deep", depthOf(name, new ArrayList<>()) <= DEEPEST, true);
        }
    }

    private int depthOf(String name, List<String> open) {
        if (open.contains(name)) {
            Due.due("recursion: " + open + " and " + name, true, false);
            return 0;
        }
        if (depths.containsKey(name)) {
            return depths.get(name);
        }
        open.add(name);
        int deepest = 0;
        Matcher m = Pattern.compile("\\b(\\w+)\\(").matcher(bodies.get(name));
        while (m.find()) {
            if (bodies.containsKey(m.group(1)) && !NO_CALLS.contains(m.group(1))) {
                deepest = Math.max(deepest, depthOf(m.group(1), open));
            }
        }
        open.remove(open.size() - 1);
        depths.put(name, deepest + 1);
        return deepest + 1;
    }
}
