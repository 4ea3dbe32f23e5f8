import java.io.IOException;
import java.lang.reflect.Constructor;
import java.lang.reflect.Field;
import java.lang.reflect.Method;
import java.lang.reflect.Modifier;
import java.nio.file.Files;
import java.nio.file.Path;
import java.util.Arrays;
import java.util.HashSet;
import java.util.Set;
import java.util.TreeSet;
import java.util.regex.Matcher;
import java.util.regex.Pattern;

/** The public face, and those rules of LANGUAGE.md that can be seen without reading the program. */
public final class FaceTest {
    private static final String[] FACE = {
        "public CulpritSearch()",
        "public static final int CulpritSearch.NONE",
        "public int CulpritSearch.change(int,int,int)",
        "public boolean CulpritSearch.has(int,int)",
        "public int CulpritSearch.target()",
        "public int CulpritSearch.good(int,int)",
        "public int CulpritSearch.begin(int,int,int,int,int)",
        "public boolean CulpritSearch.stop(int)",
        "public int CulpritSearch.state(int)",
        "public int CulpritSearch.next(int)",
        "public int CulpritSearch.answer(int,int)",
        "public long CulpritSearch.weight(int,int)",
        "public long CulpritSearch.part(int,int)",
        "public long CulpritSearch.total(int)",
        "public int CulpritSearch.found(int)",
        "public int CulpritSearch.told(int,int)",
        "public int CulpritSearch.way(int,int)",
        "public int CulpritSearch.counted(int,int)",
    };
    private static final String[] FORBIDDEN = {
        "throw", "try", "catch", "synchronized", "assert", "import", "package", "protected", "System", "Exact",
    };

    private FaceTest() {
    }

    public static void main(String[] args) throws IOException {
        faceIsTheDocuments();
        classesInside();
        forbiddenWords(Path.of("src/main/java/CulpritSearch.java"));
        Due.end();
    }

    private static void faceIsTheDocuments() {
        Class<?> program = CulpritSearch.class;
        Due.is("public and final", program.getModifiers(), Modifier.PUBLIC | Modifier.FINAL);
        Set<String> seen = new TreeSet<>();
        for (Constructor<?> each : program.getDeclaredConstructors()) {
            seen.add(each.toString());
        }
        for (Method each : program.getDeclaredMethods()) {
            if (!Modifier.isPrivate(each.getModifiers())) {
                seen.add(each.toString());
            }
        }
        for (Field each : program.getDeclaredFields()) {
            if (!Modifier.isPrivate(each.getModifiers())) {
                seen.add(each.toString());
            }
        }
        Set<String> due = new TreeSet<>(Arrays.asList(FACE));
        if (!seen.equals(due)) {
            Due.wrong("the face is " + seen + ", due is " + due);
        }
    }

    private static void classesInside() {
        Set<String> faceNames = new HashSet<>();
        for (Method each : CulpritSearch.class.getMethods()) {
            faceNames.add(each.getName());
        }
        privateNames(CulpritSearch.class, faceNames);
        for (Class<?> inside : CulpritSearch.class.getDeclaredClasses()) {
            int flags = inside.getModifiers();
            Due.is(inside + " is static", Modifier.isStatic(flags), true);
            Due.is(inside + " isn't public", Modifier.isPublic(flags) || Modifier.isProtected(flags), false);
            Due.is(inside + " has few fields", inside.getDeclaredFields().length <= 20, true);
            privateNames(inside, faceNames);
        }
    }

    private static void privateNames(Class<?> each, Set<String> faceNames) {
        for (Method method : each.getDeclaredMethods()) {
            if (!Modifier.isPublic(method.getModifiers()) && faceNames.contains(method.getName())) {
                Due.wrong(method + " bears the name of a public method");
            }
        }
        for (Field field : each.getDeclaredFields()) {
            int flags = field.getModifiers();
            Due.is(field + " is no static state", Modifier.isStatic(flags) && !Modifier.isFinal(flags), false);
        }
    }

    private static void forbiddenWords(Path source) throws IOException {
        String code = Files.readString(source).replaceAll("(?s)/\\*.*?\\*/", "").replaceAll("//[^\n]*", "");
        for (String word : FORBIDDEN) {
            Matcher found = Pattern.compile("\\b" + word + "\\b").matcher(code);
            Due.is("the word " + word + " is in the program", found.find(), false);
        }
        Due.is("a lambda or a method reference is in the program", code.contains("->") || code.contains("::"), false);
    }
}
