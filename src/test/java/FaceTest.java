import java.lang.reflect.Constructor;
import java.lang.reflect.Field;
import java.lang.reflect.Method;
import java.lang.reflect.Modifier;
import java.nio.charset.StandardCharsets;
import java.nio.file.Files;
import java.nio.file.Path;
import java.util.Set;
import java.util.TreeSet;
import java.util.regex.Matcher;
import java.util.regex.Pattern;

/** The public face, and the rules of LANGUAGE.md that can be seen from the class and its text. */
public final class FaceTest {
    private static final Set<String> FACE = Set.of(
            "row/3", "set/3", "copy/5", "drop/1", "feed/1", "court/0", "fault/0", "asked/2", "inTurn/2",
            "buy/2", "undo/0", "thing/1", "riddle/2", "suitor/2", "says/2", "riddleFor/3", "hard/2",
            "chance/2", "toBuy/2", "beats/0", "tree/2", "said/5", "image/1", "restore/1", "kind/1",
            "as/2", "ask/2", "trace/1", "count/1", "status/0");

    private static int wrong;

    public static void main(String[] args) throws Exception {
        constants();
        methods();
        fieldsAndConstructors();
        classesInside();
        text();
        System.out.println(wrong == 0 ? "the face is as told" : wrong + " things are not as told");
        if (wrong != 0) {
            System.exit(1);
        }
    }

    private static void must(boolean so, String what) {
        if (!so) {
            wrong++;
            System.out.println("not so: " + what);
        }
    }

    private static void constants() {
        must(ThreeRiddles.NONE == -1000000, "NONE is -1000000");
        must(ThreeRiddles.BAD == -1000001, "BAD is -1000001");
        must(ThreeRiddles.STATE == -1000002, "STATE is -1000002");
        must(ThreeRiddles.FULL == -1000003, "FULL is -1000003");
    }

    private static void methods() {
        Set<String> seen = new TreeSet<>();
        Set<String> names = new TreeSet<>();
        for (Method method : ThreeRiddles.class.getDeclaredMethods()) {
            int modifiers = method.getModifiers();
            if (!Modifier.isPublic(modifiers)) {
                must(Modifier.isPrivate(modifiers) || method.isSynthetic(), "private: " + method);
                continue;
            }
            must(!Modifier.isStatic(modifiers) && method.getReturnType() == int.class, "an int: " + method);
            for (Class<?> type : method.getParameterTypes()) {
                must(type == int.class, "takes ints: " + method);
            }
            seen.add(method.getName() + "/" + method.getParameterCount());
            names.add(method.getName());
        }
        must(seen.equals(FACE), "the methods are those of the document, not " + seen);
        for (Class<?> inside : ThreeRiddles.class.getDeclaredClasses()) {
            for (Method method : inside.getDeclaredMethods()) {
                must(!names.contains(method.getName()), "no other method has a public one's name: " + method);
            }
        }
    }

    private static void fieldsAndConstructors() {
        Set<String> constants = new TreeSet<>();
        for (Field field : ThreeRiddles.class.getDeclaredFields()) {
            if (Modifier.isPublic(field.getModifiers())) {
                constants.add(field.getName());
            } else {
                must(Modifier.isPrivate(field.getModifiers()), "private: " + field);
            }
            must(!Modifier.isStatic(field.getModifiers()) || Modifier.isFinal(field.getModifiers()), "final: " + field);
        }
        must(constants.equals(Set.of("NONE", "BAD", "STATE", "FULL")), "the constants, not " + constants);
        Constructor<?>[] constructors = ThreeRiddles.class.getDeclaredConstructors();
        must(constructors.length == 1 && Modifier.isPublic(constructors[0].getModifiers())
                && constructors[0].getParameterCount() == 0, "one public constructor");
        must(Modifier.isFinal(ThreeRiddles.class.getModifiers()), "the class is final");
    }

    private static void classesInside() {
        Class<?>[] inside = ThreeRiddles.class.getDeclaredClasses();
        must(inside.length < 12, "at most twelve classes");
        for (Class<?> one : inside) {
            must(Modifier.isStatic(one.getModifiers()) && !Modifier.isPublic(one.getModifiers())
                    && !Modifier.isProtected(one.getModifiers()), "static and not public: " + one);
            int fields = 0;
            for (Field field : one.getDeclaredFields()) {
                fields += Modifier.isStatic(field.getModifiers()) ? 0 : 1;
                must(!Modifier.isStatic(field.getModifiers()) || Modifier.isFinal(field.getModifiers()), "final: " + field);
            }
            must(fields <= 20, "at most twenty fields: " + one);
        }
    }

    private static void text() throws Exception {
        String text = Files.readString(Path.of("src/main/java/ThreeRiddles.java"), StandardCharsets.ISO_8859_1);
        String code = text.replaceAll("(?s)/\\*.*?\\*/", " ").replaceAll("//[^\n]*", " ");
        Matcher barred = Pattern.compile("\\b(throw|throws|try|catch|synchronized|assert|package|\\w+Exact)\\b|->|::")
                .matcher(code);
        while (barred.find()) {
            must(false, "without " + barred.group());
        }
        Matcher imports = Pattern.compile("import\\s+([\\w.*]+)").matcher(code);
        while (imports.find()) {
            must(Set.of("java.util.Arrays", "java.util.ArrayList", "java.util.List").contains(imports.group(1)),
                    "without " + imports.group(1));
        }
        for (int i = 0; i < text.length(); i++) {
            must(text.charAt(i) < 128, "plain letters alone, not at " + i);
        }
    }
}
