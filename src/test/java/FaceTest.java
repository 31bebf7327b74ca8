import java.io.IOException;
import java.lang.reflect.Constructor;
import java.lang.reflect.Field;
import java.lang.reflect.Method;
import java.lang.reflect.Modifier;
import java.nio.file.Files;
import java.nio.file.Path;
import java.util.Set;
import java.util.TreeSet;
import java.util.regex.Matcher;
import java.util.regex.Pattern;

/** The class has the document's face and nothing more, and keeps to the parts of the language that can be seen. */
public final class FaceTest {
    private static final Set<String> FACE = new TreeSet<>(Set.of(
            "int layer(int,int,int,int)", "int clear()", "int corner(int,int,int)", "int water(int,int)",
            "int about(int,int)", "int hour(int,int,int,int,int)", "int fair()", "int share(int)", "int pass(int)",
            "int steady(int)", "int sum(int)", "int pressure(int,int)", "int warmth(int,int)", "int excess(int,int)",
            "int best(int)", "int placed(int,int)", "int arrange(int)", "int read(int,int,int,int)", "int forget()",
            "int fits()", "int count(int)", "long digest()"));
    private static final Set<String> CONSTANTS = new TreeSet<>(Set.of("NONE", "UNKNOWN", "OUTSIDE", "STATE", "FULL"));
    private static final String[] FORBIDDEN = {
        "\\bthrows?\\b", "\\btry\\b", "\\bcatch\\b", "\\bsynchronized\\b", "\\bassert\\b", "\\bimport\\b", "\\bpackage\\b",
        "->", "::", "\\w+Exact\\b", "\\bprotected\\b"};

    private static int wrong = 0;

    public static void main(String[] args) throws IOException {
        checkMethods();
        checkConstants();
        checkConstructor();
        checkClasses();
        checkWords();
        System.out.println(wrong == 0 ? "the face is as told" : wrong + " faults in the face");
        System.exit(wrong == 0 ? 0 : 1);
    }

    private static void fault(String what) {
        wrong++;
        System.out.println(what);
    }

    private static void checkMethods() {
        Set<String> shown = new TreeSet<>();
        Set<String> publicNames = new TreeSet<>();
        for (Method m : WetWalls.class.getDeclaredMethods()) {
            if (!Modifier.isPrivate(m.getModifiers())) {
                String text = m.toGenericString();
                shown.add(m.getReturnType() + " " + text.substring(text.indexOf("WetWalls.") + "WetWalls.".length()));
                publicNames.add(m.getName());
            }
        }
        if (!shown.equals(FACE)) {
            fault("methods are " + shown + ", due are " + FACE);
        }
        for (Class<?> part : WetWalls.class.getDeclaredClasses()) {
            checkNames(part, publicNames);
        }
        for (Method m : WetWalls.class.getDeclaredMethods()) {
            if (Modifier.isPrivate(m.getModifiers()) && publicNames.contains(m.getName())) {
                fault("a private method bears a public name: " + m);
            }
        }
    }

    private static void checkNames(Class<?> part, Set<String> publicNames) {
        for (Method m : part.getDeclaredMethods()) {
            if (publicNames.contains(m.getName())) {
                fault("a method inside bears a public name: " + m);
            }
        }
    }

    private static void checkConstants() {
        Set<String> shown = new TreeSet<>();
        for (Field f : WetWalls.class.getDeclaredFields()) {
            if (Modifier.isStatic(f.getModifiers()) && !Modifier.isFinal(f.getModifiers())) {
                fault("a static field may change: " + f);
            }
            if (!Modifier.isPrivate(f.getModifiers())) {
                shown.add(f.getName());
            }
        }
        if (!shown.equals(CONSTANTS)) {
            fault("constants are " + shown + ", due are " + CONSTANTS);
        }
    }

    private static void checkConstructor() {
        Constructor<?>[] all = WetWalls.class.getDeclaredConstructors();
        if (all.length != 1 || all[0].getParameterCount() != 0 || !Modifier.isPublic(all[0].getModifiers())) {
            fault("the constructor is not as told");
        }
        if (!Modifier.isFinal(WetWalls.class.getModifiers()) || !Modifier.isPublic(WetWalls.class.getModifiers())) {
            fault("the class is not public and final");
        }
    }

    private static void checkClasses() {
        for (Class<?> part : WetWalls.class.getDeclaredClasses()) {
            int modifiers = part.getModifiers();
            if (!Modifier.isStatic(modifiers) || Modifier.isPublic(modifiers) || Modifier.isProtected(modifiers)) {
                fault("a class inside is not as told: " + part);
            }
        }
    }

    private static void checkWords() throws IOException {
        String text = Files.readString(Path.of("src/main/java/WetWalls.java"));
        String code = text.replaceAll("(?s)/\\*.*?\\*/", "").replaceAll("//[^\n]*", "");
        for (String word : FORBIDDEN) {
            Matcher found = Pattern.compile(word).matcher(code);
            if (found.find()) {
                fault("the class uses " + found.group());
            }
        }
        // Whatever is made beyond the constructors would add up over all calls of a run.
        Matcher made = Pattern.compile("(?m)^.*\\bnew\\b.*$").matcher(code);
        while (made.find()) {
            if (!made.group().trim().startsWith("private final ")) {
                fault("something is made outside a field: " + made.group().trim());
            }
        }
    }
}
