import java.io.IOException;
import java.lang.reflect.Constructor;
import java.lang.reflect.Field;
import java.lang.reflect.Method;
import java.lang.reflect.Modifier;
import java.nio.file.Files;
import java.nio.file.Path;
import java.util.Set;
import java.util.TreeSet;
import java.util.regex.Matcher;
import java.util.regex.Pattern;

/** The class has the document's face and nothing more, and keeps to the parts of the language that can be seen. */
public final class FaceTest {
    private static final Set<String> FACE = new TreeSet<>(Set.of(
            "int layer(int,int,int,int)", "int clear()", "int corner(int,int,int)", "int water(int,int)",
            "int about(int,int)", "int hour(int,int,int,int,int)", "int fair()", "int share(int)", "int pass(int)",
            "int steady(int)", "int sum(int)", "int pressure(int,int)", "int warmth(int,int)", "int excess(int,int)",
            "int best(int)", "int placed(int,int)", "int arrange(int)", "int read(int,int,int,int)", "int forget()",
            "int fits()", "int count(int)", "long digest()"));
    private static final Set<String> CONSTANTS = new TreeSet<>(Set.of("NONE", "UNKNOWN", "OUTSIDE", "STATE", "FULL"));
    private static final String[] FORBIDDEN = {
        "\\bthrows?\\b", "\\btry\\b", "\\bcatch\\b", "\\bsynchronized\\b", "\\bassert\\b", "\\bimport\\b", "\\bpackage\\b",
        "->", "::", "\\w+Exact\\b", "\\bprotected\\b", "\\bjavax?\\.", "\\bvar\\b", "\"", "\\bdouble\\b", "\\bfloat\\b"};
    // Of what rule 4 lists, this is all that the class needs.
    private static final Set<String> LIBRARY = Set.of("Math.min", "Math.max", "System.arraycopy");
    private static final int MOST_PARAMETERS = 7;
    private static final int MOST_LINES = 60;
    private static final int MOST_CLASSES = 12;
    private static final int MOST_FIELDS = 20;

    private static int wrong = 0;

    public static void main(String[] args) throws IOException {
        checkMethods();
        checkConstants();
        checkConstructor();
        checkClasses();
        checkSizes();
        String code = codeOf("src/main/java/WetWalls.java");
        checkWords(code);
        checkMaking(code);
        checkLibrary(code);
        checkLines(code);
        System.out.println(wrong == 0 ? "the face is as told" : wrong + " faults in the face");
        System.exit(wrong == 0 ? 0 : 1);
    }

    private static void fault(String what) {
        wrong++;
        System.out.println(what);
    }

    private static void checkMethods() {
        Set<String> shown = new TreeSet<>();
        Set<String> publicNames = new TreeSet<>();
        for (Method m : WetWalls.class.getDeclaredMethods()) {
            if (!Modifier.isPrivate(m.getModifiers())) {
                String text = m.toGenericString();
                shown.add(m.getReturnType() + " " + text.substring(text.indexOf("WetWalls.") + "WetWalls.".length()));
                publicNames.add(m.getName());
            }
        }
        if (!shown.equals(FACE)) {
            fault("methods are " + shown + ", due are " + FACE);
        }
        for (Class<?> part : WetWalls.class.getDeclaredClasses()) {
            checkNames(part, publicNames);
        }
        for (Method m : WetWalls.class.getDeclaredMethods()) {
            if (Modifier.isPrivate(m.getModifiers()) && publicNames.contains(m.getName())) {
                fault("a private method bears a public name: " + m);
            }
        }
    }

    private static void checkNames(Class<?> part, Set<String> publicNames) {
        for (Method m : part.getDeclaredMethods()) {
            if (publicNames.contains(m.getName())) {
                fault("a method inside bears a public name: " + m);
            }
        }
    }

    private static void checkConstants() {
        Set<String> shown = new TreeSet<>();
        for (Field f : WetWalls.class.getDeclaredFields()) {
            if (Modifier.isStatic(f.getModifiers()) && !Modifier.isFinal(f.getModifiers())) {
                fault("a static field may change: " + f);
            }
            if (!Modifier.isPrivate(f.getModifiers())) {
                shown.add(f.getName());
            }
        }
        if (!shown.equals(CONSTANTS)) {
            fault("constants are " + shown + ", due are " + CONSTANTS);
        }
    }

    private static void checkConstructor() {
        Constructor<?>[] all = WetWalls.class.getDeclaredConstructors();
        if (all.length != 1 || all[0].getParameterCount() != 0 || !Modifier.isPublic(all[0].getModifiers())) {
            fault("the constructor is not as told");
        }
        if (!Modifier.isFinal(WetWalls.class.getModifiers()) || !Modifier.isPublic(WetWalls.class.getModifiers())) {
            fault("the class is not public and final");
        }
    }

    private static Class<?>[] parts() {
        return WetWalls.class.getDeclaredClasses();
    }

    private static void checkClasses() {
        for (Class<?> part : parts()) {
            int modifiers = part.getModifiers();
            if (!Modifier.isStatic(modifiers) || Modifier.isPublic(modifiers) || Modifier.isProtected(modifiers)) {
                fault("a class inside is not as told: " + part);
            }
            checkStatics(part);
        }
        // Local and anonymous classes, and helpers that the compiler makes, would show here alone.
        if (WetWalls.class.getNestMembers().length != parts().length + 1) {
            fault("there are classes beside those inside");
        }
        checkStatics(WetWalls.class);
    }

    private static void checkStatics(Class<?> part) {
        Set<String> allowed = Set.of("int", "long", "boolean", "char", "int[]", "long[]", "char[]", "byte[]", "String");
        for (Field f : part.getDeclaredFields()) {
            if (Modifier.isStatic(f.getModifiers())
                    && !(Modifier.isFinal(f.getModifiers()) && allowed.contains(f.getType().getSimpleName()))) {
                fault("a static field is not as told: " + f);
            }
        }
    }

    private static void checkSizes() {
        if (parts().length + 1 > MOST_CLASSES) {
            fault("there are too many classes");
        }
        for (Class<?> part : WetWalls.class.getNestMembers()) {
            int fields = 0;
            for (Field f : part.getDeclaredFields()) {
                fields += Modifier.isStatic(f.getModifiers()) ? 0 : 1;
            }
            if (fields > MOST_FIELDS) {
                fault("there are too many fields in " + part);
            }
            for (Method m : part.getDeclaredMethods()) {
                if (m.getParameterCount() > MOST_PARAMETERS) {
                    fault("there are too many parameters of " + m);
                }
            }
        }
    }

    private static String codeOf(String file) throws IOException {
        String text = Files.readString(Path.of(file));
        return text.replaceAll("(?s)/\\*.*?\\*/", "").replaceAll("//[^\n]*", "");
    }

    private static void checkWords(String code) {
        for (String word : FORBIDDEN) {
            Matcher found = Pattern.compile(word).matcher(code);
            if (found.find()) {
                fault("the class uses " + found.group());
            }
        }
    }

    // Whatever is made beyond the constructors would add up over all calls of a run.
    private static void checkMaking(String code) {
        Matcher made = Pattern.compile("(?m)^.*\\b(new|clone|copyOf|copyOfRange)\\b.*$").matcher(code);
        while (made.find()) {
            if (!made.group().trim().startsWith("private final ")) {
                fault("something is made outside a field: " + made.group().trim());
            }
        }
    }

    private static void checkLibrary(String code) {
        Set<String> own = new TreeSet<>(Set.of("WetWalls"));
        for (Class<?> part : parts()) {
            own.add(part.getSimpleName());
        }
        Matcher used = Pattern.compile("\\b([A-Z]\\w*[a-z]\\w*)\\.\\w+").matcher(code);
        while (used.find()) {
            if (!own.contains(used.group(1)) && !LIBRARY.contains(used.group())) {
                fault("the class uses " + used.group());
            }
        }
    }

    /** A method ends at the first brace that stands as far to the left as its head. */
    private static void checkLines(String code) {
        Matcher body = Pattern.compile("(?ms)^( +)(?:public|private) [^;={]*\\([^;={]*\\) \\{\n.*?^\\1\\}").matcher(code);
        int methods = 0;
        while (body.find()) {
            methods++;
            if (body.group().lines().count() > MOST_LINES) {
                fault("a method is too long: " + body.group().lines().findFirst().get().trim());
            }
        }
        if (methods < FACE.size()) {
            fault("only " + methods + " methods were found");
        }
    }
}
