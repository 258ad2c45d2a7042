import java.io.IOException;
import java.lang.reflect.Constructor;
import java.lang.reflect.Field;
import java.lang.reflect.Method;
import java.lang.reflect.Modifier;
import java.nio.file.DirectoryStream;
import java.nio.file.Files;
import java.nio.file.Path;
import java.util.Arrays;
import java.util.Set;
import java.util.TreeSet;
import java.util.regex.Matcher;
import java.util.regex.Pattern;

/** The public face of the class, and those rules of the language that can be seen from outside. */
public final class RulesTest {
    private static final int MOST_LINES = 60;
    private static final Set<String> LIBRARY = Set.of("Math.abs", "Math.max", "Math.min", "Math.floorDiv", "Math.floorMod");
    private static final String CONSTANTS = "public static final int NONE = -1, BAD = -2, FULL = -3";
    private static final String[] FORBIDDEN = {"throw", "throws", "try", "catch", "synchronized", "assert", "import",
        "package", "->", "::", "@", "Exact", "MIN_VALUE", "MAX_VALUE", "System.out"};

    public static void main(String[] args) throws IOException {
        theFaceOfTheDocument();
        methodsBehindTheFace();
        fieldsOfTheFace();
        classesInside();
        wordsOfTheSource();
        libraryOfTheSource();
        lengthOfMethods();
        everyPromiseIsNamed();
        Check.end();
    }

    private static String parameters(Class<?>[] types) {
        String listed = Arrays.toString(types);
        return "(" + listed.substring(1, listed.length() - 1) + ")";
    }

    private static void theFaceOfTheDocument() {
        Set<String> open = new TreeSet<>();
        for (Method m : StreamDesk.class.getDeclaredMethods()) {
            if (!Modifier.isPrivate(m.getModifiers())) {
                String head = Modifier.toString(m.getModifiers()) + " " + m.getReturnType() + " " + m.getName();
                open.add(head + parameters(m.getParameterTypes()));
            }
        }
        for (Constructor<?> c : StreamDesk.class.getDeclaredConstructors()) {
            open.add(Modifier.toString(c.getModifiers()) + " " + c.getName() + parameters(c.getParameterTypes()));
        }
        open.add(CONSTANTS);
        Check.holds("the face is " + open, open.equals(new TreeSet<>(Document.face())));
        Check.due("NONE", StreamDesk.NONE, -1);
        Check.due("BAD", StreamDesk.BAD, -2);
        Check.due("FULL", StreamDesk.FULL, -3);
        Check.due("modifiers of the class", StreamDesk.class.getModifiers(), Modifier.PUBLIC | Modifier.FINAL);
    }

    private static void methodsBehindTheFace() {
        Set<String> names = new TreeSet<>();
        for (String member : Document.face()) {
            names.add(member.replaceAll("\\(.*", "").replaceAll(".* ", ""));
        }
        for (Method m : StreamDesk.class.getDeclaredMethods()) {
            if (Modifier.isPrivate(m.getModifiers())) {
                Check.holds(m + " has a name of its own", !names.contains(m.getName()));
            }
        }
    }

    private static void fieldsOfTheFace() {
        Set<String> open = new TreeSet<>();
        for (Field f : StreamDesk.class.getDeclaredFields()) {
            int modifiers = f.getModifiers();
            if (!Modifier.isPrivate(modifiers)) {
                open.add(Modifier.toString(modifiers) + " " + f.getType() + " " + f.getName());
            }
            Check.holds(f + " is no static state", !Modifier.isStatic(modifiers) || Modifier.isFinal(modifiers));
        }
        String constant = "public static final int ";
        Set<String> want = new TreeSet<>(Arrays.asList(constant + "NONE", constant + "BAD", constant + "FULL"));
        Check.holds("the constants are " + open, open.equals(want));
    }

    private static void classesInside() {
        Class<?>[] inside = StreamDesk.class.getDeclaredClasses();
        Check.holds("at most twelve classes", inside.length < 12);
        for (Class<?> c : inside) {
            int modifiers = c.getModifiers();
            Check.holds(c + " is static", Modifier.isStatic(modifiers));
            Check.holds(c + " is not open", !Modifier.isPublic(modifiers) && !Modifier.isProtected(modifiers));
            int fields = 0;
            for (Field f : c.getDeclaredFields()) {
                boolean constant = Modifier.isStatic(f.getModifiers());
                Check.holds(f + " is no static state", !constant || Modifier.isFinal(f.getModifiers()));
                fields += constant ? 0 : 1;
            }
            Check.holds(c + " has at most twenty fields", fields <= 20);
            for (Method m : c.getDeclaredMethods()) {
                Check.holds(m + " has at most seven parameters", m.getParameterCount() <= 7);
            }
        }
    }

    /** Each promise has tests of its edges that name it. */
    private static void everyPromiseIsNamed() throws IOException {
        Set<Integer> named = new TreeSet<>();
        try (DirectoryStream<Path> tests = Files.newDirectoryStream(Path.of("src/test/java"), "EdgesOf*Test.java")) {
            for (Path test : tests) {
                Matcher m = Pattern.compile("Check\\.promise\\((\\d+),").matcher(Files.readString(test));
                while (m.find()) {
                    named.add(Integer.valueOf(m.group(1)));
                }
            }
        }
        for (int promise = 1; promise <= Document.PROMISES; promise++) {
            Check.holds("promise " + promise + " is named by a test of its edges", named.contains(promise));
        }
    }

    private static String code() throws IOException {
        String source = Files.readString(Path.of("src/main/java/StreamDesk.java"));
        return source.replaceAll("(?s)/\\*.*?\\*/", "").replaceAll("//[^\n]*", "");
    }

    /** What is called on a class is one of its own, or stands in the list of the library. */
    private static void libraryOfTheSource() throws IOException {
        Set<String> own = new TreeSet<>();
        for (Class<?> c : StreamDesk.class.getDeclaredClasses()) {
            own.add(c.getSimpleName());
        }
        Matcher m = Pattern.compile("\\b([A-Z][A-Za-z]*)\\.([a-z]\\w*)").matcher(code());
        while (m.find()) {
            Check.holds(m.group() + " may be used", own.contains(m.group(1)) || LIBRARY.contains(m.group()));
        }
    }

    /** A method ends with the brace that stands as far in as its head. */
    private static void lengthOfMethods() throws IOException {
        Matcher m = Pattern.compile("(?m)^((?: {4}){1,2})[\\w\\[\\] ]+\\([^)]*\\) \\{$(?s:.*?)^\\1\\}$").matcher(code());
        int methods = 0;
        while (m.find()) {
            String head = m.group().lines().findFirst().orElse("").strip();
            Check.holds(head + " is short", m.group().lines().count() <= MOST_LINES);
            methods++;
        }
        Check.holds("methods are found", methods > Document.PROMISES);
    }

    private static void wordsOfTheSource() throws IOException {
        String code = code();
        for (String word : FORBIDDEN) {
            boolean isName = Character.isLetter(word.charAt(0));
            Matcher m = Pattern.compile(isName ? "\\b" + Pattern.quote(word) + "\\b" : Pattern.quote(word)).matcher(code);
            Check.holds("no " + word, !m.find());
        }
    }
}
