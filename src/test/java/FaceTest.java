import java.io.IOException;
import java.lang.reflect.Constructor;
import java.lang.reflect.Field;
import java.lang.reflect.Method;
import java.lang.reflect.Modifier;
import java.nio.file.Files;
import java.nio.file.Path;
import java.util.Set;
import java.util.TreeSet;
import java.util.regex.Matcher;
import java.util.regex.Pattern;

/** The face of the document, and those rules of LANGUAGE.md that can be seen without reading closely. */
public final class FaceTest {
    private static final Check CHECK = new Check();
    private static final String[] METHODS = {"put(long)", "wipe()", "fault(int)", "load(int)", "remove(int)",
        "character(int,int)", "about(int,int)", "heading(int,int,int)", "anchor(int,int,int)", "section(int,int,int)",
        "cycles()", "redirect()", "unredirect(int)", "redirection(int,int)", "link(int,int,int)", "tally(int)",
        "reach(int,int)", "memory(int,int)", "repair(int,int,int)", "mend(int,int)", "mendAll()",
        "straighten(int,int)", "undo()", "count(int)"};
    private static final String[] CONSTANTS = {"NO_SUCH", "BAD_VALUE", "BAD_TEXT", "TOO_MANY", "NOT_POSSIBLE", "NONE",
        "DIRECT", "REDIRECTED", "CIRCULAR", "LOST", "DANGLING"};
    private static final int[] VALUES = {-1, -2, -3, -4, -5, -6, 0, 1, 2, 3, 4};

    public static void main(String[] args) throws Exception {
        methods();
        constants();
        constructors();
        insideClasses();
        source();
        CHECK.end("FaceTest");
    }

    private static void methods() {
        Set<String> due = new TreeSet<>(Set.of(METHODS));
        Set<String> found = new TreeSet<>();
        for (Method method : LinkAuditor.class.getDeclaredMethods()) {
            if (!Modifier.isPrivate(method.getModifiers())) {
                String whole = method.toString();
                found.add(whole.substring(whole.indexOf("LinkAuditor.") + "LinkAuditor.".length()));
                CHECK.same("type of " + method.getName(), method.getReturnType().getName(), "int");
                CHECK.is("modifiers of " + method.getName(), method.getModifiers(), Modifier.PUBLIC);
            }
        }
        CHECK.same("methods", found.toString(), due.toString());
    }

    private static void constants() throws IllegalAccessException {
        Set<String> found = new TreeSet<>();
        for (Field field : LinkAuditor.class.getDeclaredFields()) {
            int modifiers = field.getModifiers();
            if (!Modifier.isPrivate(modifiers)) {
                found.add(field.getName());
                CHECK.is("modifiers of " + field.getName(), modifiers, Modifier.PUBLIC | Modifier.STATIC | Modifier.FINAL);
                CHECK.same("type of " + field.getName(), field.getType().getName(), "int");
            }
            boolean changing = Modifier.isStatic(modifiers) && !Modifier.isFinal(modifiers);
            CHECK.is("static and not final: " + field, changing ? 1 : 0, 0);
        }
        CHECK.same("constants", found.toString(), new TreeSet<>(Set.of(CONSTANTS)).toString());
        for (int index = 0; index < CONSTANTS.length; index++) {
            try {
                CHECK.is(CONSTANTS[index], LinkAuditor.class.getField(CONSTANTS[index]).getInt(null), VALUES[index]);
            } catch (NoSuchFieldException missing) {
                CHECK.same("constant", "none", CONSTANTS[index]);
            }
        }
    }

    private static void constructors() {
        Constructor<?>[] all = LinkAuditor.class.getDeclaredConstructors();
        CHECK.is("constructors", all.length, 1);
        CHECK.is("its modifiers", all[0].getModifiers(), Modifier.PUBLIC);
        CHECK.is("its parameters", all[0].getParameterCount(), 0);
        int modifiers = LinkAuditor.class.getModifiers();
        CHECK.is("public and final", modifiers, Modifier.PUBLIC | Modifier.FINAL);
    }

    private static void insideClasses() {
        Set<String> face = new TreeSet<>();
        for (String method : METHODS) {
            face.add(method.substring(0, method.indexOf('(')));
        }
        Class<?>[] inside = LinkAuditor.class.getDeclaredClasses();
        CHECK.is("at most twelve classes", inside.length <= 11 ? 1 : 0, 1);
        for (Class<?> one : inside) {
            int modifiers = one.getModifiers();
            boolean seen = Modifier.isPublic(modifiers) || Modifier.isProtected(modifiers);
            CHECK.is(one.getName() + " is static and not seen", Modifier.isStatic(modifiers) && !seen ? 1 : 0, 1);
            CHECK.is(one.getName() + " has few fields", one.getDeclaredFields().length <= 22 ? 1 : 0, 1);
            for (Method method : one.getDeclaredMethods()) {
                CHECK.is(method + " has a name of its own", face.contains(method.getName()) ? 1 : 0, 0);
                CHECK.is(method + " has few parameters", method.getParameterCount() <= 7 ? 1 : 0, 1);
            }
        }
        for (Method method : LinkAuditor.class.getDeclaredMethods()) {
            boolean hidden = Modifier.isPrivate(method.getModifiers());
            CHECK.is(method + " has a name of its own", hidden && face.contains(method.getName()) ? 1 : 0, 0);
        }
    }

    /** Nothing throws, catches or is fetched from outside, so that these words need not stand there at all. */
    private static void source() throws IOException {
        String text = Files.readString(Path.of("src/main/java/LinkAuditor.java"));
        String code = text.replaceAll("(?s)/\\*.*?\\*/", "").replaceAll("//[^\n]*", "");
        String[] words = {"import", "package", "try", "catch", "throw", "throws", "finally", "assert", "synchronized",
            "double", "float", "String", "equals", "hashCode", "toString", "java", "this", "instanceof"};
        for (String word : words) {
            Matcher matcher = Pattern.compile("\\b" + word + "\\b").matcher(code);
            CHECK.is("the word " + word + " stands in the program", matcher.find() ? 1 : 0, 0);
        }
        CHECK.is("a lambda", code.contains("->") || code.contains("::") ? 1 : 0, 0);
        for (int at = 0; at < text.length(); at++) {
            if (text.charAt(at) > 126) {
                CHECK.is("a sign at " + at, text.charAt(at), 0);
            }
        }
    }
}
