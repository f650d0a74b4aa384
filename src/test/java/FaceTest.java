import java.io.IOException;
import java.lang.reflect.Constructor;
import java.lang.reflect.Field;
import java.lang.reflect.Method;
import java.lang.reflect.Modifier;
import java.nio.file.Files;
import java.nio.file.Path;
import java.util.Arrays;
import java.util.Set;
import java.util.TreeSet;
import java.util.regex.Matcher;
import java.util.regex.Pattern;

/** The public face as the document writes it, and those rules of the language that can be seen in the file. */
public final class FaceTest {
    private static final Check CHECK = new Check("FaceTest");
    private static final String MISSING = "NoSuchElementException";
    private static final String UNFIT = "IllegalArgumentException";
    private static final String UNTIMELY = "IllegalStateException";
    private static final String[] FACE = {
        "int feed 5", "int text 1 " + UNFIT, "int fault 0",
        "int sale 5 " + MISSING + " " + UNFIT + " " + UNTIMELY, "int stock 2 " + MISSING + " " + UNFIT,
        "int mark 1 " + UNFIT, "int night 0 " + UNTIMELY, "int buyin 2 " + MISSING + " " + UNTIMELY + " " + UNFIT,
        "int undo 0", "int told 1 " + UNFIT, "long dealer 2 " + MISSING + " " + UNFIT,
        "int of 2 " + MISSING + " " + UNFIT, "long rule 1 " + MISSING, "int part 3 " + MISSING + " " + UNFIT,
        "int parts 1 " + MISSING, "int chain 2 " + MISSING, "int ring 1 " + UNFIT, "long most 1 " + UNFIT,
        "int foretold 1 " + UNFIT, "long without 1 " + MISSING, "int between 2 " + MISSING, "long mean 0",
        "long outside 0", "long print 0", "int status 1"
    };

    public static void main(String[] args) throws IOException {
        face();
        nestedClasses();
        source();
        CHECK.end();
    }

    private static void face() {
        Set<String> seen = new TreeSet<>();
        Set<String> names = new TreeSet<>();
        for (Method m : FailDesk.class.getDeclaredMethods()) {
            if (m.isSynthetic() || Modifier.isPrivate(m.getModifiers())) {
                continue;
            }
            StringBuilder line = new StringBuilder(m.getReturnType() + " " + m.getName() + " " + m.getParameterCount());
            for (Class<?> thrown : m.getExceptionTypes()) {
                line.append(' ').append(thrown.getSimpleName());
            }
            seen.add(line.toString());
            names.add(m.getName());
            CHECK.due(m.getName() + " is public and of an object", m.getModifiers(), Modifier.PUBLIC);
            CHECK.due(m.getName() + " takes ints", Arrays.stream(m.getParameterTypes()).allMatch(t -> t == int.class) ? 1 : 0, 1);
        }
        Set<String> due = new TreeSet<>(Arrays.asList(FACE));
        CHECK.due("methods of the face " + seen, seen.equals(due) ? 1 : 0, 1);
        for (Field f : FailDesk.class.getDeclaredFields()) {
            boolean hidden = Modifier.isPrivate(f.getModifiers());
            CHECK.due("field " + f.getName(), hidden || f.getName().equals("NONE") ? 1 : 0, 1);
        }
        Constructor<?>[] made = FailDesk.class.getDeclaredConstructors();
        CHECK.due("constructors", made.length, 1);
        CHECK.due("the constructor is public", made[0].getModifiers(), Modifier.PUBLIC);
        CHECK.due("the class is public and final", FailDesk.class.getModifiers(), Modifier.PUBLIC | Modifier.FINAL);
        hiddenNames(FailDesk.class, names);
        for (Class<?> inside : FailDesk.class.getDeclaredClasses()) {
            hiddenNames(inside, names);
        }
    }

    private static void hiddenNames(Class<?> kind, Set<String> names) {
        for (Method m : kind.getDeclaredMethods()) {
            boolean borne = kind != FailDesk.class || Modifier.isPrivate(m.getModifiers());
            CHECK.due(kind.getSimpleName() + "." + m.getName() + " bears a name of the face",
                    borne && names.contains(m.getName()) ? 1 : 0, 0);
            CHECK.due(kind.getSimpleName() + "." + m.getName() + " has few parameters", m.getParameterCount() <= 7 ? 1 : 0, 1);
        }
    }

    private static void nestedClasses() {
        Class<?>[] inside = FailDesk.class.getDeclaredClasses();
        CHECK.due("classes, the outer one too: " + (inside.length + 1), inside.length + 1 <= 12 ? 1 : 0, 1);
        for (Class<?> kind : inside) {
            CHECK.due(kind.getSimpleName() + " is static", Modifier.isStatic(kind.getModifiers()) ? 1 : 0, 1);
            CHECK.due(kind.getSimpleName() + " is not public", Modifier.isPublic(kind.getModifiers()) ? 1 : 0, 0);
            int fields = 0;
            for (Field f : kind.getDeclaredFields()) {
                boolean isStatic = Modifier.isStatic(f.getModifiers());
                fields += isStatic ? 0 : 1;
                CHECK.due(kind.getSimpleName() + "." + f.getName() + " is final, if static",
                        isStatic && !Modifier.isFinal(f.getModifiers()) ? 1 : 0, 0);
            }
            CHECK.due("fields of " + kind.getSimpleName() + ": " + fields, fields <= 20 ? 1 : 0, 1);
        }
    }

    private static void source() throws IOException {
        String file = Files.readString(Path.of("src/main/java/FailDesk.java"));
        String bare = file.replaceAll("(?s)/\\*.*?\\*/", "").replaceAll("//[^\n]*", "");
        String[] barred = {"->", "::", "\\bsynchronized\\b", "\\bassert\\b", "\\bfinally\\b", "\\btry\\b", "\\bcatch\\b",
            "Exact\\b", "\\bpackage\\b", "\\bDouble\\b", "\\bObject\\b", "\\bequals\\b", "\\bSystem\\.(?!arraycopy)",
            "\\bRandom\\b", "\\bThread\\b", "\\bwhile\\b", "\\bthis\\b", "\\bvar\\b"};
        for (String word : barred) {
            Matcher m = Pattern.compile(word).matcher(bare);
            CHECK.due("the file holds " + word, m.find() ? 1 : 0, 0);
        }
        Matcher imports = Pattern.compile("import ([^;]*);").matcher(bare);
        while (imports.find()) {
            boolean listed = Set.of("java.util.Arrays", "java.util.NoSuchElementException").contains(imports.group(1));
            CHECK.due("import of " + imports.group(1), listed ? 1 : 0, 1);
        }
        Matcher methods = Pattern.compile("(?m)^( +)(?:[a-z]+ )*[\\w\\[\\]]+ \\w+\\([^;{]*\\)[^;{]*\\{\n(.*?)^\\1\\}", Pattern.DOTALL).matcher(bare);
        int found = 0;
        while (methods.find()) {
            found++;
            long lines = methods.group().lines().count();
            CHECK.due("lines of a method: " + methods.group().lines().findFirst().orElse(""), lines <= 60 ? 1 : 0, 1);
        }
        CHECK.due("methods are found in the file", found > 50 ? 1 : 0, 1);
        CHECK.due("signs beyond 127", file.chars().filter(c -> c > 127).count(), 0);
    }
}
