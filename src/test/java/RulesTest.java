import java.lang.reflect.Constructor;
import java.lang.reflect.Field;
import java.lang.reflect.Method;
import java.lang.reflect.Modifier;
import java.nio.file.Files;
import java.nio.file.Path;
import java.util.Arrays;
import java.util.List;
import java.util.Set;
import java.util.TreeSet;
import java.util.regex.Matcher;
import java.util.regex.Pattern;

/** The face as the document has it, and those rules of LANGUAGE.md that can be seen from outside. */
public final class RulesTest {
    private static final Checks CHECKS = new Checks("RulesTest");
    private static final Set<String> FACE = new TreeSet<>(List.of(
        "type(int)", "clear()", "tells()", "levels(int,int,int)", "sets(int,int)", "undo()", "level(int,int)",
        "peak(int,int,int)", "frame(int,int)", "track(int,int)", "pitch(int,int)", "best(int)", "sees(int,int)",
        "forget()", "which(int)", "listen()", "keep(int)", "back(int)", "count(int)"));
    private static final Set<String> CONSTANTS = Set.of("BAD", "STATE", "FULL", "NONE", "NO");
    // Only what rule 4 lists and the class may want.
    private static final Set<String> IMPORTS = Set.of("java.util.Arrays", "java.util.ArrayList", "java.util.List",
        "java.util.Iterator");

    public static void main(String[] args) throws Exception {
        rule1Face();
        rule1Members(FollowedPeaks.class);
        rule2ClassesInside();
        rules5And11Fields();
        String source = Files.readString(Path.of(args[0]));
        rules2And6Words(withoutComments(source));
        rule11Lengths(source);
        CHECKS.end();
    }

    private static void rule1Face() {
        Set<String> found = new TreeSet<>();
        for (Method m : FollowedPeaks.class.getDeclaredMethods()) {
            if (Modifier.isPublic(m.getModifiers())) {
                String face = Arrays.toString(m.getParameterTypes()).replace("[", "(").replace("]", ")");
                found.add(m.getName() + face.replace(" ", ""));
                CHECKS.dueTrue(m.getName() + " answers an int", m.getReturnType() == int.class);
                CHECKS.dueTrue(m.getName() + " is not static", !Modifier.isStatic(m.getModifiers()));
            }
        }
        CHECKS.dueTrue("the face is " + found, found.equals(FACE));
        int modifiers = FollowedPeaks.class.getModifiers();
        CHECKS.dueTrue("the class is public, final", Modifier.isPublic(modifiers) && Modifier.isFinal(modifiers));
        Constructor<?>[] makers = FollowedPeaks.class.getConstructors();
        CHECKS.dueTrue("one constructor", makers.length == 1 && makers[0].getParameterCount() == 0);
    }

    private static void rule1Members(Class<?> type) {
        Set<String> publicNames = new TreeSet<>();
        for (Method m : type.getDeclaredMethods()) {
            boolean open = Modifier.isPublic(m.getModifiers());
            if (open) {
                publicNames.add(m.getName());
            }
            CHECKS.dueTrue(m.getName() + " is public or private", open || Modifier.isPrivate(m.getModifiers()));
        }
        for (Method m : type.getDeclaredMethods()) {
            boolean hidden = Modifier.isPrivate(m.getModifiers());
            CHECKS.dueTrue(m.getName() + " bears no public name", !hidden || !publicNames.contains(m.getName()));
        }
        for (Field f : type.getDeclaredFields()) {
            boolean constant = CONSTANTS.contains(f.getName());
            CHECKS.dueTrue(f.getName() + " is private or a constant of the face",
                constant == Modifier.isPublic(f.getModifiers()) && (constant || Modifier.isPrivate(f.getModifiers())));
        }
    }

    private static void rule2ClassesInside() {
        Class<?>[] inside = FollowedPeaks.class.getDeclaredClasses();
        CHECKS.dueTrue("twelve classes at most", inside.length + 1 <= 12);
        for (Class<?> c : inside) {
            int modifiers = c.getModifiers();
            CHECKS.dueTrue(c.getName() + " is static", Modifier.isStatic(modifiers));
            for (Method m : c.getDeclaredMethods()) {
                CHECKS.dueTrue(m.getName() + " bears no name of the face",
                    FACE.stream().noneMatch(face -> face.startsWith(m.getName() + "(")));
            }
            CHECKS.dueTrue(c.getName() + " is hidden", !Modifier.isPublic(modifiers) && !Modifier.isProtected(modifiers));
        }
    }

    private static void rules5And11Fields() {
        fieldsOf(FollowedPeaks.class);
        for (Class<?> c : FollowedPeaks.class.getDeclaredClasses()) {
            fieldsOf(c);
        }
    }

    private static void fieldsOf(Class<?> c) {
        int own = 0;
        for (Field f : c.getDeclaredFields()) {
            if (Modifier.isStatic(f.getModifiers())) {
                CHECKS.dueTrue(f.getName() + " is final", Modifier.isFinal(f.getModifiers()));
                CHECKS.dueTrue(f.getName() + " is of a type for constants", List.of(int.class, long.class,
                    boolean.class, char.class, String.class, int[].class, long[].class, char[].class,
                    byte[].class).contains(f.getType()));
            } else {
                own++;
            }
        }
        CHECKS.dueTrue(c.getName() + " has twenty fields at most", own <= 20);
        for (Method m : c.getDeclaredMethods()) {
            CHECKS.dueTrue(m.getName() + " has seven parameters at most", m.getParameterCount() <= 7);
        }
    }

    private static String withoutComments(String source) {
        return source.replaceAll("(?s)/\\*.*?\\*/", "").replaceAll("//[^\n]*", "");
    }

    private static void rules2And6Words(String code) {
        for (String word : List.of("throw", "throws", "try", "catch", "synchronized", "assert", "package", "native",
                "volatile", "transient", "protected", "var", "Object", "System.out", "Exception")) {
            boolean stands = Pattern.compile("\\b" + Pattern.quote(word) + "\\b").matcher(code).find();
            CHECKS.dueTrue("no " + word, !stands);
        }
        CHECKS.dueTrue("no lambda or arrow", !code.contains("->"));
        CHECKS.dueTrue("no method reference", !code.contains("::"));
        CHECKS.dueTrue("no Exact", !code.contains("Exact"));
        Matcher imports = Pattern.compile("import\\s+([\\w.*]+)\\s*;").matcher(code);
        while (imports.find()) {
            CHECKS.dueTrue("import " + imports.group(1), IMPORTS.contains(imports.group(1)));
        }
        Matcher system = Pattern.compile("System\\.(\\w+)").matcher(code);
        while (system.find()) {
            CHECKS.due("System." + system.group(1), system.group(1).equals("arraycopy") ? 1 : 0, 1);
        }
    }

    /** A method's body ends with the line of its own indent that has nothing but a brace. */
    private static void rule11Lengths(String source) {
        String[] lines = source.split("\n");
        int began = -1;
        String indent = "";
        for (int i = 0; i < lines.length; i++) {
            Matcher head = Pattern.compile("^( +)[\\w\\[\\] ]+\\(.*\\) \\{$").matcher(lines[i]);
            if (began < 0 && head.find()) {
                began = i;
                indent = head.group(1);
            } else if (began >= 0 && lines[i].equals(indent + "}")) {
                CHECKS.dueTrue("the method at line " + (began + 1) + " is short", i - began < 60);
                began = -1;
            }
        }
    }
}
