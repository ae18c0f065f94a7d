import java.io.IOException;
import java.lang.reflect.Constructor;
import java.lang.reflect.Executable;
import java.lang.reflect.Field;
import java.lang.reflect.Method;
import java.lang.reflect.Modifier;
import java.nio.charset.StandardCharsets;
import java.nio.file.Files;
import java.nio.file.Path;
import java.util.Arrays;
import java.util.HashSet;
import java.util.List;
import java.util.Set;
import java.util.TreeSet;
import java.util.regex.Matcher;
import java.util.regex.Pattern;

/** What of ../shared/LANGUAGE.md can be read off the source and off the class. */
public final class LanguageTest {
    private static final Check CHECK = new Check("LanguageTest");
    private static final String[] FACE = {
        "int sign(int)", "boolean end(int)", "int machine()", "int draws(int,int,int,int)", "int state(int,int)",
        "int run(long)", "long joins(long,long)", "int letter(long,int)", "long cut(long,int)", "long word(int)",
        "boolean prices(int,int)", "int method(int)", "int asks(long)", "int known(long)", "int step()", "int guess()",
        "int tells(long)", "int learns()", "long head(int)", "long tail(int)", "int cell(int,int,int)", "int lines()",
        "int knot(int,int)", "int sift(long)", "int guessed(int,int)", "long access(int)", "int reads(long)",
        "long errs()", "int wrong(int)", "int tests(int)", "long passes(int)", "long parted(int,int)",
        "long like(int,int)", "int least()", "long reach(int)", "int groups(int)", "int costs(int)", "int cheapest()",
        "int count(int)", "long row(int) throws java.util.NoSuchElementException"
    };
    /** What the rules leave out, or the program has no use for. */
    private static final String[] OUT = {
        "->", "::", "@", "\\bpackage\\b", "\\bassert\\b", "\\bsynchronized\\b", "\\bfinally\\b", "\\btry\\b",
        "\\bcatch\\b", "\\brecord\\b", "\\bvar\\b", "\\blambda\\b", "\\bStream\\b", "\\bMap\\b", "\\bSet\\b",
        "\\bSystem\\.(?!arraycopy)", "\\bMath\\.(?!max|min)", "Exact", "\\binstanceof\\b", "\\bstatic\\s*\\{",
        "\\bdouble\\b", "\\bfloat\\b", "\\bString\\b", "\\bObject\\b", "\\bThread\\b", "\\bRandom\\b",
        "\\bArrays\\.(?!fill\\()", "\"", "\\?\\s*>"
    };

    private LanguageTest() {
    }

    public static void main(String[] args) throws IOException, ClassNotFoundException {
        String source = Files.readString(Path.of("src/main/java/AskingPupil.java"), StandardCharsets.ISO_8859_1);
        face();
        classes();
        words(source);
        indices(source);
        lengths(source);
        CHECK.end();
    }

    private static void face() {
        CHECK.about("rule 1");
        Set<String> due = new TreeSet<>(Arrays.asList(FACE));
        Set<String> got = new TreeSet<>();
        for (Method m : AskingPupil.class.getDeclaredMethods()) {
            if (!Modifier.isPrivate(m.getModifiers())) got.add(described(m));
        }
        CHECK.due("the methods", got.toString(), due.toString());
        int modifiers = AskingPupil.class.getModifiers();
        CHECK.holds("the class is public and final", Modifier.isPublic(modifiers) && Modifier.isFinal(modifiers));
        Constructor<?>[] constructors = AskingPupil.class.getDeclaredConstructors();
        CHECK.due("constructors", constructors.length, 1);
        CHECK.holds("it is public", Modifier.isPublic(constructors[0].getModifiers()));
        CHECK.due("its parameters", constructors[0].getParameterCount(), 0);
        for (Field f : AskingPupil.class.getDeclaredFields()) {
            CHECK.holds(f + " is NONE or private", f.getName().equals("NONE") == !Modifier.isPrivate(f.getModifiers()));
        }
    }

    private static String described(Method m) {
        StringBuilder text = new StringBuilder(m.getReturnType() + " " + m.getName() + "(");
        for (Class<?> type : m.getParameterTypes()) text.append(text.charAt(text.length() - 1) == '(' ? "" : ",").append(type);
        text.append(')');
        for (Class<?> type : m.getExceptionTypes()) text.append(" throws ").append(type.getName());
        return text.toString();
    }

    private static void classes() {
        CHECK.about("rules 1, 2, 5 and 11");
        Set<String> publicNames = new HashSet<>();
        for (Method m : AskingPupil.class.getMethods()) publicNames.add(m.getName());
        List<Class<?>> inside = Arrays.asList(AskingPupil.class.getDeclaredClasses());
        CHECK.holds("some twelve classes", inside.size() < 12);
        for (Method m : AskingPupil.class.getDeclaredMethods()) {
            if (Modifier.isPrivate(m.getModifiers())) CHECK.holds(m + " has a name of its own", !publicNames.contains(m.getName()));
            plain(m);
        }
        fields(AskingPupil.class);
        for (Class<?> c : inside) {
            CHECK.holds(c + " is static, and not public", Modifier.isStatic(c.getModifiers()) && !Modifier.isPublic(c.getModifiers()));
            for (Method m : c.getDeclaredMethods()) {
                CHECK.holds(m + " has a name of its own", !publicNames.contains(m.getName()));
                plain(m);
            }
            for (Constructor<?> made : c.getDeclaredConstructors()) plain(made);
            fields(c);
        }
    }

    private static void plain(Executable m) {
        CHECK.holds(m + " has at most 7 parameters", m.getParameterCount() <= 7);
    }

    private static void fields(Class<?> c) {
        int own = 0;
        for (Field f : c.getDeclaredFields()) {
            boolean isStatic = Modifier.isStatic(f.getModifiers());
            if (!isStatic) own++;
            else CHECK.holds(f + " is a final number", Modifier.isFinal(f.getModifiers()) && f.getType().isPrimitive());
        }
        CHECK.holds(c + " has at most 20 fields", own <= 20);
    }

    private static String withoutComments(String source) {
        return source.replaceAll("(?s)/\\*.*?\\*/", "").replaceAll("//[^\n]*", "");
    }

    private static void words(String source) {
        CHECK.about("rules 3 to 10");
        String code = withoutComments(source);
        for (String out : OUT) {
            Matcher found = Pattern.compile(out).matcher(code);
            CHECK.holds(out + " is not written", !found.find());
        }
        for (char c : source.toCharArray()) {
            if (c > 126) CHECK.holds("only plain signs, not " + (int) c, false);
        }
        Matcher imports = Pattern.compile("import ([^;]*);").matcher(code);
        while (imports.find()) {
            CHECK.holds("import of " + imports.group(1), List.of("java.util.Arrays", "java.util.NoSuchElementException").contains(imports.group(1)));
        }
        Matcher thrown = Pattern.compile("throw ([^;]*);").matcher(code);
        int throwsSeen = 0;
        while (thrown.find()) {
            throwsSeen++;
            CHECK.due("what is thrown", thrown.group(1), "new NoSuchElementException()");
        }
        CHECK.due("throws", throwsSeen, 1);
    }

    /** An index that is a written number is not looked at before it is used. */
    private static void indices(String source) {
        CHECK.about("rule 7");
        Matcher index = Pattern.compile("(?<!new (?:int|long))\\[\\s*\\d+\\s*\\]").matcher(withoutComments(source));
        CHECK.holds("no index is a written number", !index.find());
    }

    /** A method's lines stand between its head, which ends with a brace, and the brace of the same depth. */
    private static void lengths(String source) {
        CHECK.about("rule 11");
        String[] lines = source.split("\n");
        Pattern head = Pattern.compile("( {4}| {8})[a-zA-Z].*\\) (throws \\w+ )?\\{");
        for (int i = 0; i < lines.length; i++) {
            CHECK.holds("line " + (i + 1) + " has at most 130 signs", lines[i].length() <= 130);
            Matcher m = head.matcher(lines[i]);
            if (!m.matches()) continue;
            int j = i;
            while (j < lines.length && !lines[j].equals(m.group(1) + "}")) j++;
            CHECK.holds(lines[i].trim() + " has at most 40 lines", j - i <= 40);
        }
    }
}
