import java.io.IOException;
import java.lang.reflect.Constructor;
import java.lang.reflect.Field;
import java.lang.reflect.Method;
import java.lang.reflect.Modifier;
import java.nio.file.Files;
import java.nio.file.Path;
import java.util.Set;
import java.util.TreeSet;
import java.util.regex.Matcher;
import java.util.regex.Pattern;

/** The public face of the document, and those rules of LANGUAGE.md that can be read off the class. */
final class FaceAndLanguageTest {
    private static final Set<String> FACE = Set.of(
        "int BAD_BELT = -1", "int BAD_KIND = -2", "int NO_ROOM = -3", "int NOTHING = -4",
        "int BAD_NUMBER = -5", "int CLOSED = -1", "int OPEN = -2",
        "BeltLanes(int)", "int put(int,int)", "int take(int)", "int lead(int,int)",
        "int arm(int,int,int,int)", "int tick(int)", "int items(int)", "int place(int,int)",
        "int kind(int,int)", "int out()", "int held(int)", "boolean room(int)", "int moving(int)");

    private static final String[] NOT_ALLOWED = {
        "import", "package", "throw", "throws", "try", "catch", "synchronized", "assert", "instanceof",
        "null", "float", "double", "String", "System", "Math", "Integer", "Arrays", "Object",
        "enum", "interface", "record", "protected", "->", "::", "\"",
    };

    public static void main(String[] args) throws IOException, IllegalAccessException {
        Checks.same("the face", face().toString(), new TreeSet<>(FACE).toString());
        int modifiers = BeltLanes.class.getModifiers();
        Checks.same("modifiers of the class", Modifier.toString(modifiers), "public final");
        Checks.same("nested classes", BeltLanes.class.getDeclaredClasses().length, 0);
        namesOfPrivateMethods();
        typesOfFields();
        wordsOfTheSource();
        Checks.end();
    }

    private static Set<String> face() throws IllegalAccessException {
        Set<String> face = new TreeSet<>();
        for (Field field : BeltLanes.class.getDeclaredFields()) {
            if (!Modifier.isPrivate(field.getModifiers())) {
                Checks.same("modifiers of " + field, Modifier.toString(field.getModifiers()), "public static final");
                face.add(field.getType() + " " + field.getName() + " = " + field.get(null));
            }
        }
        for (Constructor<?> constructor : BeltLanes.class.getDeclaredConstructors()) {
            face.add("BeltLanes" + parameters(constructor.getParameterTypes()));
            Checks.same("modifiers of the constructor", Modifier.toString(constructor.getModifiers()), "public");
        }
        for (Method method : BeltLanes.class.getDeclaredMethods()) {
            if (!Modifier.isPrivate(method.getModifiers())) {
                Checks.same("modifiers of " + method, Modifier.toString(method.getModifiers()), "public");
                face.add(method.getReturnType() + " " + method.getName() + parameters(method.getParameterTypes()));
            }
        }
        return face;
    }

    private static String parameters(Class<?>[] types) {
        StringBuilder text = new StringBuilder();
        for (Class<?> type : types) {
            text.append(text.length() == 0 ? "" : ",").append(type);
        }
        return "(" + text + ")";
    }

    private static void namesOfPrivateMethods() {
        Set<String> names = new TreeSet<>();
        for (Method method : BeltLanes.class.getDeclaredMethods()) {
            Checks.same("a second method named " + method.getName(), names.add(method.getName()), true);
            Checks.same("parameters of " + method, method.getParameterCount() <= 7, true);
        }
    }

    private static void typesOfFields() {
        for (Field field : BeltLanes.class.getDeclaredFields()) {
            Class<?> type = field.getType();
            Class<?> held = type.isArray() ? type.getComponentType() : type;
            Checks.same("type of " + field, held.isPrimitive(), true);
            boolean isConstant = type == int.class && Modifier.isFinal(field.getModifiers());
            Checks.same("static " + field, !Modifier.isStatic(field.getModifiers()) || isConstant, true);
        }
    }

    private static void wordsOfTheSource() throws IOException {
        String source = Files.readString(Path.of("src/main/java/BeltLanes.java"));
        String code = source.replaceAll("//[^\n]*", "");
        for (String word : NOT_ALLOWED) {
            String edge = Character.isLetter(word.charAt(0)) ? "\\b" : "";
            Matcher found = Pattern.compile(edge + Pattern.quote(word) + edge).matcher(code);
            Checks.same("the source uses " + word, found.find(), false);
        }
        // The fields stand before the constructor: what is made after them is made by a call.
        String afterFields = code.substring(code.indexOf("public BeltLanes("));
        Checks.same("something is made outside the fields", afterFields.contains("new "), false);
    }
}
