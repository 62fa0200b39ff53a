import java.io.IOException;
import java.lang.reflect.Constructor;
import java.lang.reflect.Field;
import java.lang.reflect.Method;
import java.lang.reflect.Modifier;
import java.nio.file.Files;
import java.nio.file.Path;
import java.util.ArrayList;
import java.util.Arrays;
import java.util.List;
import java.util.Set;
import java.util.TreeSet;
import java.util.regex.Matcher;
import java.util.regex.Pattern;

/** The document's face, no more and no less, and those rules of LANGUAGE.md that the text of the program shows. */
public final class FaceTest {
    private static final String[] METHODS = {"begin/4", "read/2", "store/3", "drop/2", "turn/1", "write/1", "wipe/0", "fault/0",
        "play/0", "order/1", "told/3", "word/3", "cached/3", "buffered/3", "memory/1", "truth/1", "core/2", "waiting/2",
        "open/2", "day/2", "count/1"};
    private static final String[] FIELDS = {"BAD", "NO", "FULL", "NONE", "WAITS"};
    private static final String[] FORBIDDEN = {"\\bthrow\\b", "\\btry\\b", "\\bcatch\\b", "\\bsynchronized\\b", "\\bassert\\b",
        "->", "::", "\\bimport\\b", "\\bpackage\\b", "\\bprotected\\b", "\\bwhile *\\(true\\)", "Exact\\b", "\\bSystem\\.",
        "\\bRandom\\b", "\\bThread\\b"};
    private static int wrong = 0;

    private static void hold(boolean holds, String what) {
        if (!holds) {
            wrong++;
            System.out.println("does not hold: " + what);
        }
    }

    private static void face() {
        Class<?> face = SplitWatch.class;
        hold(Modifier.isPublic(face.getModifiers()) && Modifier.isFinal(face.getModifiers()), "the class is public and final");
        Set<String> methods = new TreeSet<>();
        Set<String> names = new TreeSet<>();
        for (Method m : face.getDeclaredMethods()) {
            if (Modifier.isPrivate(m.getModifiers())) {
                continue;
            }
            methods.add(m.getName() + "/" + m.getParameterCount());
            names.add(m.getName());
            hold(m.getReturnType() == int.class, m.getName() + " answers an int");
            hold(Arrays.stream(m.getParameterTypes()).allMatch(t -> t == int.class), m.getName() + " takes ints");
            hold(Modifier.isPublic(m.getModifiers()) && !Modifier.isStatic(m.getModifiers()), m.getName() + " is public");
        }
        hold(methods.equals(new TreeSet<>(Arrays.asList(METHODS))), "the methods are those of the document: " + methods);
        Set<String> fields = new TreeSet<>();
        for (Field f : face.getDeclaredFields()) {
            if (!Modifier.isPrivate(f.getModifiers())) {
                fields.add(f.getName());
                hold(f.getType() == int.class && Modifier.isStatic(f.getModifiers()), f.getName() + " is a constant");
            }
        }
        hold(fields.equals(new TreeSet<>(Arrays.asList(FIELDS))), "the constants are those of the document: " + fields);
        Constructor<?>[] made = face.getDeclaredConstructors();
        hold(made.length == 1 && made[0].getParameterCount() == 0 && Modifier.isPublic(made[0].getModifiers()), "one constructor");
        for (Class<?> inside : face.getDeclaredClasses()) {
            hold(Modifier.isStatic(inside.getModifiers()), inside.getName() + " is static");
            hold(inside.getDeclaredFields().length <= 24, inside.getName() + " has some twenty fields");
            for (Method m : inside.getDeclaredMethods()) {
                hold(!names.contains(m.getName()), "no method inside bears a public name: " + m.getName());
                hold(m.getParameterCount() <= 7, m.getName() + " takes seven parameters at most");
            }
        }
        hold(face.getDeclaredClasses().length <= 11, "some twelve classes");
        for (Field f : face.getDeclaredFields()) {
            hold(!Modifier.isStatic(f.getModifiers()) || Modifier.isFinal(f.getModifiers()), f.getName() + " is final");
        }
    }

    private static void text() throws IOException {
        String source = Files.readString(Path.of("src/main/java/SplitWatch.java"));
        String bare = source.replaceAll("(?s)/\\*.*?\\*/", "").replaceAll("//[^\n]*", "").replaceAll("\"[^\"\n]*\"", "\"\"");
        for (String word : FORBIDDEN) {
            Matcher m = Pattern.compile(word).matcher(bare);
            hold(!m.find(), "the program has no " + word);
        }
        hold(source.chars().allMatch(ch -> ch == '\n' || ch >= 32 && ch < 127), "the program is plain ASCII");
        List<String> long60 = new ArrayList<>();
        int start = -1;
        String[] lines = source.split("\n");
        for (int i = 0; i < lines.length; i++) {
            if (lines[i].matches(" {4}(?: {4})?(?:public|private)[^;=]*\\) \\{")) {
                start = i;
            } else if (start >= 0 && lines[i].matches(" {4}(?: {4})?\\}")) {
                if (i - start > 60) {
                    long60.add(lines[start].trim());
                }
                start = -1;
            }
        }
        hold(long60.isEmpty(), "methods of sixty lines at most: " + long60);
    }

    public static void main(String[] args) throws IOException {
        face();
        text();
        System.out.println(wrong == 0 ? "the face is as due" : wrong + " rules do not hold");
        if (wrong != 0) {
            System.exit(1);
        }
    }
}
