import java.lang.reflect.Constructor;
import java.lang.reflect.Field;
import java.lang.reflect.Method;
import java.lang.reflect.Modifier;
import java.nio.file.Files;
import java.nio.file.Path;
import java.util.Arrays;
import java.util.HashSet;
import java.util.Map;
import java.util.Set;
import java.util.TreeMap;
import java.util.TreeSet;
import java.util.regex.Matcher;
import java.util.regex.Pattern;

/** The document's public face, and the rules of LANGUAGE.md that can be looked up mechanically. */
public final class FaceTest {
    private static final Check check = new Check();
    private static final Class<?> FABRIC = BenesFabric.class;
    private static final Set<Class<?>> NUMBERS =
        Set.of(int.class, long.class, short.class, byte.class, char.class, boolean.class);

    public static void main(String[] args) throws Exception {
        constantsAreTheDocuments();
        methodsAreTheDocuments();
        classIsPlain();
        fieldsAreNumbersAndArrays();
        sourceUsesNoForbiddenWord();
        check.end();
    }

    private static void constantsAreTheDocuments() throws Exception {
        check.part("constants");
        Map<String, Integer> want = new TreeMap<>(Map.of("OK", 0, "NONE", -1, "BAD", -2, "INPUT_BUSY", -3, "OUTPUT_BUSY", -4));
        want.putAll(Map.of("PORTS", 0, "STAGES", 1, "SLOTS", 2, "ACTIVE", 3, "DRAFT_COUNT", 4, "LATCH_COUNT", 5, "FLIGHT_COUNT", 6));
        Map<String, Integer> got = new TreeMap<>();
        for (Field field : FABRIC.getDeclaredFields()) {
            if (!Modifier.isPrivate(field.getModifiers())) {
                check.due(field.getName() + " is public static final int", isConstant(field));
                got.put(field.getName(), field.getInt(null));
            }
        }
        check.due(got + " are the constants " + want, got.equals(want));
    }

    private static boolean isConstant(Field field) {
        return field.getModifiers() == (Modifier.PUBLIC | Modifier.STATIC | Modifier.FINAL) && field.getType() == int.class;
    }

    private static void methodsAreTheDocuments() {
        check.part("methods");
        Map<String, Integer> want = new TreeMap<>(Map.of("request", 2, "withdraw", 1, "clear", 0, "fill", 2, "set", 1, "load", 1, "select", 1, "route", 2));
        want.putAll(Map.of("source", 2, "latch", 2, "tick", 0, "output", 2, "drafted", 1, "latched", 1, "info", 1));
        Map<String, Integer> got = new TreeMap<>();
        Set<String> hidden = new TreeSet<>();
        for (Method method : FABRIC.getDeclaredMethods()) {
            check.due(method.getName() + " takes at most seven parameters", method.getParameterCount() <= 7);
            if (Modifier.isPrivate(method.getModifiers())) {
                hidden.add(method.getName());
                continue;
            }
            boolean ints = Arrays.stream(method.getParameterTypes()).allMatch(type -> type == int.class);
            check.due(method + " is public over ints", method.getModifiers() == Modifier.PUBLIC && ints && method.getReturnType() == int.class);
            check.due(method.getName() + " is there once", got.put(method.getName(), method.getParameterCount()) == null);
        }
        check.due(got + " are the methods " + want, got.equals(want));
        hidden.retainAll(want.keySet());
        check.due("no private method has a public one's name", hidden.isEmpty());
    }

    private static void classIsPlain() {
        check.part("class");
        check.due("it is public and final", FABRIC.getModifiers() == (Modifier.PUBLIC | Modifier.FINAL));
        check.due("it has no nested class", FABRIC.getDeclaredClasses().length == 0);
        check.due("it extends and implements nothing", FABRIC.getSuperclass() == Object.class && FABRIC.getInterfaces().length == 0);
        check.due("it has no package", FABRIC.getPackageName().isEmpty());
        Constructor<?>[] made = FABRIC.getDeclaredConstructors();
        check.due("it has the one constructor", made.length == 1 && made[0].getModifiers() == Modifier.PUBLIC
            && Arrays.equals(made[0].getParameterTypes(), new Class<?>[] {int.class, int.class}));
    }

    private static void fieldsAreNumbersAndArrays() {
        check.part("fields");
        int own = 0;
        for (Field field : FABRIC.getDeclaredFields()) {
            Class<?> type = field.getType();
            if (Modifier.isStatic(field.getModifiers())) {
                check.due(field.getName() + " is a constant of int or long",
                    Modifier.isFinal(field.getModifiers()) && (type == int.class || type == long.class));
            } else {
                own++;
                check.due(field.getName() + " is a number or an array of them",
                    NUMBERS.contains(type) || type.isArray() && NUMBERS.contains(type.getComponentType()));
            }
        }
        check.due("there are at most forty fields", own <= 40);
    }

    private static void sourceUsesNoForbiddenWord() throws Exception {
        check.part("source");
        String source = Files.readString(Path.of("src/main/java/BenesFabric.java"));
        String code = source.replaceAll("(?s)/\\*.*?\\*/", " ").replaceAll("//[^\\n]*", " ");
        Set<String> words = new HashSet<>();
        Matcher word = Pattern.compile("[A-Za-z_$][A-Za-z0-9_$]*").matcher(code);
        while (word.find()) {
            words.add(word.group());
        }
        for (String no : ("import package float double String Object Math Integer Long System Arrays null throw throws try "
            + "catch finally synchronized assert instanceof interface enum record extends implements var "
            + "getClass hashCode equals toString notify notifyAll wait clone finalize").split(" ")) {
            check.due("no '" + no + "'", !words.contains(no));
        }
        check.due("no lambda, method reference or text", !code.contains("->") && !code.contains("::") && !code.contains("\""));
        check.due("no array of arrays", !Pattern.compile("\\[\\s*\\]\\s*\\[").matcher(code).find());
    }
}
