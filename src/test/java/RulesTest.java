import java.io.IOException;
import java.lang.reflect.Constructor;
import java.lang.reflect.Field;
import java.lang.reflect.Method;
import java.lang.reflect.Modifier;
import java.nio.file.DirectoryStream;
import java.nio.file.Files;
import java.nio.file.Path;
import java.util.Arrays;
import java.util.Set;
import java.util.TreeSet;
import java.util.regex.Matcher;
import java.util.regex.Pattern;

/** The public face of the class, and those rules of the language that can be seen from outside. */
public final class RulesTest {
    private static final String[] FACE = {
        "int alter(int, int)", "int at(int)", "int clear()", "int count(int)", "int data(int)", "int delay(int)",
        "int hear()", "int heard(int)", "int pass(int)", "int rate(int, int)", "int report(int)",
        "int sender(int, int)", "int take()", "int type(long, int)", "long digest()", "long event(int, int)",
        "long next(int)", "long time(int, long)"};
    private static final String[] FORBIDDEN = {"throw", "throws", "try", "catch", "synchronized", "assert", "import",
        "package", "->", "::", "@", "Exact", "MIN_VALUE", "MAX_VALUE", "System.out"};

    public static void main(String[] args) throws IOException {
        methodsOfTheFace();
        fieldsOfTheFace();
        classesInside();
        wordsOfTheSource();
        everyPromiseIsNamed();
        Check.end();
    }

    private static void methodsOfTheFace() {
        Set<String> open = new TreeSet<>();
        Set<String> names = new TreeSet<>();
        for (Method m : StreamDesk.class.getDeclaredMethods()) {
            if (Modifier.isPublic(m.getModifiers())) {
                names.add(m.getName());
                String parameters = Arrays.toString(m.getParameterTypes());
                open.add(m.getReturnType() + " " + m.getName() + "(" + parameters.substring(1, parameters.length() - 1) + ")");
            }
        }
        Check.holds("the methods are " + open, open.equals(new TreeSet<>(Arrays.asList(FACE))));
        for (Method m : StreamDesk.class.getDeclaredMethods()) {
            if (!Modifier.isPublic(m.getModifiers())) {
                Check.holds(m + " is private", Modifier.isPrivate(m.getModifiers()) || m.isSynthetic());
                Check.holds(m + " has a name of its own", !names.contains(m.getName()));
            }
        }
        Constructor<?>[] constructors = StreamDesk.class.getDeclaredConstructors();
        Check.due("constructors", constructors.length, 1);
        Check.due("the constructor's parameters", constructors[0].getParameterCount(), 0);
        Check.holds("the constructor is public", Modifier.isPublic(constructors[0].getModifiers()));
        Check.holds("the class is public", Modifier.isPublic(StreamDesk.class.getModifiers()));
        Check.holds("the class is final", Modifier.isFinal(StreamDesk.class.getModifiers()));
    }

    private static void fieldsOfTheFace() {
        Set<String> open = new TreeSet<>();
        for (Field f : StreamDesk.class.getDeclaredFields()) {
            int modifiers = f.getModifiers();
            if (!Modifier.isPrivate(modifiers)) {
                open.add(Modifier.toString(modifiers) + " " + f.getType() + " " + f.getName());
            }
            Check.holds(f + " is no static state", !Modifier.isStatic(modifiers) || Modifier.isFinal(modifiers));
        }
        String constant = "public static final int ";
        Set<String> want = new TreeSet<>(Arrays.asList(constant + "NONE", constant + "BAD", constant + "FULL"));
        Check.holds("the constants are " + open, open.equals(want));
    }

    private static void classesInside() {
        Class<?>[] inside = StreamDesk.class.getDeclaredClasses();
        Check.holds("at most twelve classes", inside.length < 12);
        for (Class<?> c : inside) {
            int modifiers = c.getModifiers();
            Check.holds(c + " is static", Modifier.isStatic(modifiers));
            Check.holds(c + " is not open", !Modifier.isPublic(modifiers) && !Modifier.isProtected(modifiers));
            int fields = 0;
            for (Field f : c.getDeclaredFields()) {
                boolean constant = Modifier.isStatic(f.getModifiers());
                Check.holds(f + " is no static state", !constant || Modifier.isFinal(f.getModifiers()));
                fields += constant ? 0 : 1;
            }
            Check.holds(c + " has at most twenty fields", fields <= 20);
            for (Method m : c.getDeclaredMethods()) {
                Check.holds(m + " has at most seven parameters", m.getParameterCount() <= 7);
            }
        }
    }

    /** Each promise has tests of its edges that name it. */
    private static void everyPromiseIsNamed() throws IOException {
        Set<Integer> named = new TreeSet<>();
        try (DirectoryStream<Path> tests = Files.newDirectoryStream(Path.of("src/test/java"), "EdgesOf*Test.java")) {
            for (Path test : tests) {
                Matcher m = Pattern.compile("Check\\.promise\\((\\d+),").matcher(Files.readString(test));
                while (m.find()) {
                    named.add(Integer.valueOf(m.group(1)));
                }
            }
        }
        for (int promise = 1; promise <= Document.PROMISES; promise++) {
            Check.holds("promise " + promise + " is named by a test of its edges", named.contains(promise));
        }
    }

    private static void wordsOfTheSource() throws IOException {
        String source = Files.readString(Path.of("src/main/java/StreamDesk.java"));
        String code = source.replaceAll("(?s)/\\*.*?\\*/", "").replaceAll("//[^\n]*", "");
        for (String word : FORBIDDEN) {
            boolean isName = Character.isLetter(word.charAt(0));
            Matcher m = Pattern.compile(isName ? "\\b" + Pattern.quote(word) + "\\b" : Pattern.quote(word)).matcher(code);
            Check.holds("no " + word, !m.find());
        }
    }
}
