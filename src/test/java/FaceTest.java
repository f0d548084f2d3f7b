import java.lang.reflect.Constructor;
import java.lang.reflect.Field;
import java.lang.reflect.Member;
import java.lang.reflect.Method;
import java.lang.reflect.Modifier;
import java.nio.file.Files;
import java.nio.file.Path;
import java.util.Arrays;
import java.util.Set;
import java.util.TreeSet;

/** The face of the document, and what can be seen of LANGUAGE.md from outside. */
public final class FaceTest {
    private static final String[] METHODS = {
        "int type(int)", "int clear()", "int furrows()", "int furrow(int,int)", "int way(int,int)",
        "int sights(int)", "int hedgehog(int)", "int point(int,int)", "int sits(int,int,int,int)",
        "int waits(int,int)", "int undo()", "int sat(int,int)", "int race(int)", "int one()",
        "int needed(int)", "int worst(int,int,int)", "int saw(int,int)", "int forget()", "int fits()",
        "int sure(int)", "int ask(int)", "long bet(int,int)", "int rate(int,int)", "int keep(int)",
        "int back(int)", "int count(int)", "long trace()"};
    private static final String[] FORBIDDEN = {
        "throw", "try", "catch", "synchronized", "assert", "package", "protected", "@", "->", "::", "Exact"};

    public static void main(String[] args) throws Exception {
        face();
        members();
        constants();
        nestedClasses();
        words();
        Checks.end();
    }

    private static void face() {
        int modifiers = AlwaysThere.class.getModifiers();
        Checks.holds("the class is public and final", modifiers == (Modifier.PUBLIC | Modifier.FINAL));
        Set<String> got = new TreeSet<>();
        for (Method m : AlwaysThere.class.getDeclaredMethods()) {
            if (Modifier.isPublic(m.getModifiers())) {
                String arguments = Arrays.toString(m.getParameterTypes()).replaceAll("[\\[\\] ]", "");
                got.add(m.getReturnType() + " " + m.getName() + "(" + arguments + ")");
            }
        }
        Checks.holds("the public methods are " + got, got.equals(new TreeSet<>(Arrays.asList(METHODS))));
        Constructor<?>[] all = AlwaysThere.class.getDeclaredConstructors();
        Checks.holds("one public constructor without arguments",
            all.length == 1 && Modifier.isPublic(all[0].getModifiers()) && all[0].getParameterCount() == 0);
    }

    private static void members() {
        Set<String> names = new TreeSet<>();
        for (Method m : AlwaysThere.class.getDeclaredMethods()) {
            if (Modifier.isPublic(m.getModifiers())) {
                names.add(m.getName());
            }
        }
        for (Method m : AlwaysThere.class.getDeclaredMethods()) {
            Checks.holds(m + " is public or private", isPublicOrPrivate(m));
            Checks.holds(m + " is private and bears a public one's name",
                Modifier.isPublic(m.getModifiers()) || !names.contains(m.getName()));
        }
        for (Field f : AlwaysThere.class.getDeclaredFields()) {
            Checks.holds(f + " is public or private", isPublicOrPrivate(f));
        }
    }

    private static boolean isPublicOrPrivate(Member m) {
        return Modifier.isPublic(m.getModifiers()) || Modifier.isPrivate(m.getModifiers());
    }

    private static void constants() throws Exception {
        String[] names = {"BAD", "STATE", "FULL", "NONE", "NO"};
        int[] values = {-1, -2, -3, -9, -1000000};
        int count = 0;
        for (Field f : AlwaysThere.class.getDeclaredFields()) {
            if (Modifier.isPublic(f.getModifiers())) {
                count++;
            }
        }
        Checks.due("how many public constants", count, names.length);
        for (int i = 0; i < names.length; i++) {
            Checks.due(names[i], AlwaysThere.class.getField(names[i]).getInt(null), values[i]);
        }
    }

    private static void nestedClasses() {
        Class<?>[] nested = AlwaysThere.class.getDeclaredClasses();
        Checks.holds("at most some twelve classes", nested.length + 1 <= 12);
        for (Class<?> c : nested) {
            Checks.holds(c + " is static", Modifier.isStatic(c.getModifiers()));
            Checks.holds(c + " is neither public nor protected",
                !Modifier.isPublic(c.getModifiers()) && !Modifier.isProtected(c.getModifiers()));
            Checks.holds(c + " has some twenty fields at most", c.getDeclaredFields().length <= 24);
            for (Method m : c.getDeclaredMethods()) {
                Checks.holds(m + " takes seven arguments at most", m.getParameterCount() <= 7);
            }
        }
    }

    private static void words() throws Exception {
        String code = Files.readString(Path.of("src/main/java/AlwaysThere.java"));
        code = code.replaceAll("(?s)/\\*.*?\\*/", " ").replaceAll("//[^\n]*", " ");
        for (String word : FORBIDDEN) {
            boolean isWord = Character.isLetter(word.charAt(0)) && !word.equals("Exact");
            String found = isWord ? "(?s).*\\b" + word + "\\b.*" : "(?s).*" + word + ".*";
            Checks.holds("the code is without " + word, !code.matches(found));
        }
        String imports = code.replaceAll("(?m)^import java\\.util\\.(Arrays|ArrayList|List|Iterator);$", "");
        Checks.holds("the code imports only what is listed", !imports.contains("import "));
        Checks.holds("the code is in ASCII", code.chars().allMatch(c -> c < 128));
    }
}
