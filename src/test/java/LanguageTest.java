import java.lang.reflect.Constructor;
import java.lang.reflect.Field;
import java.lang.reflect.Method;
import java.lang.reflect.Modifier;
import java.nio.charset.StandardCharsets;
import java.nio.file.Files;
import java.nio.file.Path;
import java.util.Arrays;
import java.util.List;
import java.util.TreeSet;
import java.util.regex.Matcher;
import java.util.regex.Pattern;

/** The face, and those rules of LANGUAGE.md that the source and the compiled classes show. Runs from the project's root. */
public final class LanguageTest {
    private static final List<Class<?>> MAY_BE_STATIC = List.of(int.class, long.class, boolean.class, char.class, String.class,
        int[].class, long[].class, char[].class, byte[].class);
    // "Some twelve" classes, "some twenty" fields: so many are too many.
    private static final int CLASSES = 16;
    private static final int FIELDS = 25;

    private static int wrong = 0;

    private static void check(boolean holds, String what) {
        if (!holds) {
            wrong++;
            System.out.println("not so: " + what);
        }
    }

    public static void main(String[] args) throws Exception {
        checkFace();
        String source = Files.readString(Path.of("src/main/java/CarbonMinistry.java"), StandardCharsets.ISO_8859_1);
        String bare = withoutTexts(source);
        checkWords(bare);
        checkMethods(bare);
        checkNested();
        System.out.println(wrong == 0 ? "the language is kept to" : wrong + " rules are broken");
        if (wrong != 0) {
            System.exit(1);
        }
    }

    private static void checkFace() {
        Class<?> c = CarbonMinistry.class;
        check(Modifier.isPublic(c.getModifiers()) && Modifier.isFinal(c.getModifiers()), "public and final");
        TreeSet<String> face = new TreeSet<>();
        TreeSet<String> open = new TreeSet<>();
        for (Method m : c.getDeclaredMethods()) {
            if (Modifier.isPublic(m.getModifiers())) {
                face.add(m.getReturnType().getSimpleName() + " " + m.getName() + Arrays.stream(m.getParameterTypes())
                    .map(Class::getSimpleName).toList());
                open.add(m.getName());
            }
        }
        for (Method m : c.getDeclaredMethods()) {
            check(Modifier.isPublic(m.getModifiers()) || Modifier.isPrivate(m.getModifiers()), m + " hidden");
            check(Modifier.isPublic(m.getModifiers()) || !open.contains(m.getName()), m + " has a name of the face");
        }
        String i = "int", ii = "int, int", iii = "int, int, int";
        TreeSet<String> due = new TreeSet<>(Arrays.asList("int feed[int, int, int, int, int]", "boolean end[" + i + "]",
            "int ministry[]", "int fault[" + i + "]", "int has[" + i + "]", "int letter[" + iii + "]",
            "int officer[" + ii + "]", "int carbon[" + ii + "]", "int feels[" + ii + "]", "int passes[" + ii + "]",
            "int kept[" + ii + "]", "int later[" + iii + "]", "int settles[]", "int strongest[" + ii + "]",
            "int acted[" + i + "]", "int turning[int, int, int, int]", "int steps[" + ii + "]",
            "int cutting[" + ii + "]", "int discover[]", "int sources[" + ii + "]", "int tells[" + ii + "]",
            "boolean put[" + iii + "]", "boolean turn[" + ii + "]", "boolean pull[" + ii + "]", "int days[" + i + "]",
            "int chance[" + i + "]", "boolean undo[]", "boolean seed[" + i + "]", "long ask[]", "int image[]",
            "int octet[" + i + "]", "boolean on[]", "int status[" + i + "]"));
        check(face.equals(due), "the face's methods: " + face);
        for (Field f : c.getDeclaredFields()) {
            boolean constant = f.getName().equals("NONE") || f.getName().equals("NOTHING");
            int m = f.getModifiers();
            check(constant ? Modifier.isPublic(m) && Modifier.isStatic(m) && Modifier.isFinal(m) : Modifier.isPrivate(m),
                f + " hidden");
        }
        Constructor<?>[] made = c.getDeclaredConstructors();
        check(made.length == 1 && Modifier.isPublic(made[0].getModifiers()) && made[0].getParameterCount() == 0,
            "one constructor");
    }

    private static void checkNested() {
        Class<?>[] inside = CarbonMinistry.class.getDeclaredClasses();
        check(inside.length + 1 <= CLASSES, "some twelve classes: " + (inside.length + 1));
        for (Class<?> c : inside) {
            check(Modifier.isStatic(c.getModifiers()) && !Modifier.isPublic(c.getModifiers()), c + " static, not public");
            checkFields(c);
        }
        checkFields(CarbonMinistry.class);
    }

    private static void checkFields(Class<?> c) {
        int own = 0;
        for (Field f : c.getDeclaredFields()) {
            if (!Modifier.isStatic(f.getModifiers())) {
                own++;
                continue;
            }
            check(Modifier.isFinal(f.getModifiers()), f + " final");
            check(f.isSynthetic() || f.isEnumConstant() || MAY_BE_STATIC.contains(f.getType()), f + " of a type that may be static");
        }
        check(own <= FIELDS, c + " has " + own + " fields");
        for (Method m : c.getDeclaredMethods()) {
            check(m.getParameterCount() <= 7, m + " takes at most seven");
        }
    }

    private static void checkWords(String bare) {
        String[] never = {"throw", "throws", "try", "catch", "finally", "synchronized", "assert", "package", "protected",
            "hashCode", "System\\.(?!arraycopy)", "native", "\\w+Exact", "::", "static\\s*\\{",
            "new\\s+\\w+\\s*\\([^()]*\\)\\s*\\{", "Random", "Thread", "Runtime",
            "import\\s+(?!java\\.util\\.(ArrayList|List|Arrays|Iterator|\\*)\\s*;)"};
        for (String word : never) {
            String edge = Character.isLetter(word.charAt(0)) ? "\\b" : "";
            check(!Pattern.compile(edge + word).matcher(bare).find(), "the source is without " + word);
        }
        // The arrow of a switch is none of a lambda.
        String lambdas = bare.replaceAll("\\b(case\\b[^;{}]*?|default\\s*)->", "");
        check(!lambdas.contains("->"), "the source is without lambdas");
        check(!Pattern.compile("\"\\s*\\+|\\+\\s*\"").matcher(bare).find(), "no texts joined by +");
        for (int k = 0; k < bare.length(); k++) {
            check(bare.charAt(k) < 127, "plain signs only");
        }
    }

    /** The source with its comments gone and its texts and signs emptied. */
    private static String withoutTexts(String source) {
        String bare = Pattern.compile("/\\*.*?\\*/", Pattern.DOTALL).matcher(source).replaceAll("");
        bare = bare.replaceAll("(?m)//.*$", "");
        bare = bare.replaceAll("\"[^\"\\n]*\"", "\"\"");
        return bare.replaceAll("'[^'\\n]'", "'x'");
    }

    private static void checkMethods(String bare) {
        Matcher m = Pattern.compile("(?m)^( +)[a-zA-Z\\[\\] ]+\\w+\\([^;{]*\\) \\{$").matcher(bare);
        int found = 0;
        while (m.find()) {
            String closing = "\n" + m.group(1) + "}";
            int stop = bare.indexOf(closing, m.end());
            long lines = bare.substring(m.start(), stop < 0 ? bare.length() : stop).lines().count();
            check(lines <= 60, m.group().trim() + " is short, has " + lines + " lines");
            found++;
        }
        check(found > 0, "methods found: " + found);
    }
}
