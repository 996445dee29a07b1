import java.io.IOException;
import java.lang.reflect.Constructor;
import java.lang.reflect.Field;
import java.lang.reflect.Method;
import java.lang.reflect.Modifier;
import java.nio.file.Files;
import java.nio.file.Path;
import java.util.HashSet;
import java.util.Set;
import java.util.TreeSet;
import java.util.regex.Matcher;
import java.util.regex.Pattern;

/** The public face, to the letter, and those rules of LANGUAGE.md that can be read off the source. */
public final class FaceTest {
    private static final String[] FACE = {
        "int letters(long)", "int blank()", "int fault()", "int sea()", "int square(int,int)",
        "int berg(int,int,int,int,int)", "int as(int,int)", "int about(int,int)", "int change(int,int,int)",
        "int coin(int,int)", "int tow(int,int,boolean,int)", "int ways(int)", "int best(int,int)",
        "int season(int,int)", "int more(int)", "int drawn(int,int,boolean,int,int)",
        "int came(int,int,boolean,int,int)", "long letOff(int,int,int,int,int)", "int line(int,int,int)",
        "int claims(int,int,int,int,int)", "int image()", "int restore()", "int count(int)", "long digest()",
    };
    private static final String[] NO_WORDS = {
        "throw", "throws", "try", "catch", "finally", "synchronized", "assert", "import", "volatile", "native",
        "String", "System.exit", "System.out", "Thread", "Object", "equals", "hashCode", "toString", "random", "@",
        "->", "::",
    };

    public static void main(String[] args) throws IOException {
        methods();
        fieldsAndConstructor();
        insideClasses();
        source(Files.readString(Path.of("src/main/java/IceForCoast.java")));
        Check.end();
    }

    private static String told(Method m) {
        StringBuilder text = new StringBuilder(m.getReturnType().getSimpleName() + " " + m.getName() + "(");
        for (Class<?> type : m.getParameterTypes()) {
            text.append(text.charAt(text.length() - 1) == '(' ? "" : ",").append(type.getSimpleName());
        }
        return text.append(')').toString();
    }

    private static void methods() {
        Set<String> open = new TreeSet<>();
        for (Method m : IceForCoast.class.getDeclaredMethods()) {
            if (Modifier.isPrivate(m.getModifiers())) {
                continue;
            }
            Check.holds(told(m) + " is public", Modifier.isPublic(m.getModifiers()));
            Check.holds(told(m) + " is of the object", !Modifier.isStatic(m.getModifiers()));
            open.add(told(m));
        }
        Check.holds("the methods are those of the face: " + open, open.equals(new TreeSet<>(Set.of(FACE))));
    }

    private static void fieldsAndConstructor() {
        Set<String> open = new TreeSet<>();
        int own = 0;
        for (Field f : IceForCoast.class.getDeclaredFields()) {
            if (!Modifier.isPrivate(f.getModifiers())) {
                open.add(f.getName());
            }
            own += Modifier.isStatic(f.getModifiers()) ? 0 : 1;
            Check.holds(f.getName() + ": static is final", !Modifier.isStatic(f.getModifiers())
                || Modifier.isFinal(f.getModifiers()));
        }
        Check.holds("the constants of the face: " + open,
            open.equals(Set.of("NONE", "UNKNOWN", "OUTSIDE", "STATE", "FULL")));
        Check.holds("some twenty fields", own <= 20);
        Constructor<?>[] made = IceForCoast.class.getDeclaredConstructors();
        Check.holds("one public constructor of nothing", made.length == 1
            && Modifier.isPublic(made[0].getModifiers()) && made[0].getParameterCount() == 0);
        Check.holds("a public final class", Modifier.isPublic(IceForCoast.class.getModifiers())
            && Modifier.isFinal(IceForCoast.class.getModifiers()));
        Check.due("NONE", IceForCoast.NONE, -1);
        Check.due("UNKNOWN", IceForCoast.UNKNOWN, -101);
        Check.due("OUTSIDE", IceForCoast.OUTSIDE, -102);
        Check.due("STATE", IceForCoast.STATE, -103);
        Check.due("FULL", IceForCoast.FULL, -104);
    }

    private static void insideClasses() {
        Set<String> names = new HashSet<>();
        for (Method m : IceForCoast.class.getMethods()) {
            names.add(m.getName());
        }
        Class<?>[] inside = IceForCoast.class.getDeclaredClasses();
        Check.holds("some twelve classes", inside.length + 1 <= 12);
        for (Class<?> c : inside) {
            Check.holds(c + " is static", Modifier.isStatic(c.getModifiers()));
            Check.holds(c + " is not public", !Modifier.isPublic(c.getModifiers()));
            int own = 0;
            for (Field f : c.getDeclaredFields()) {
                own += Modifier.isStatic(f.getModifiers()) ? 0 : 1;
                Check.holds(c + "." + f.getName() + ": static is final", !Modifier.isStatic(f.getModifiers())
                    || Modifier.isFinal(f.getModifiers()));
            }
            Check.holds(c + " has some twenty fields", own <= 20);
            for (Method m : c.getDeclaredMethods()) {
                Check.holds(c + "." + m.getName() + " bears no public name", !names.contains(m.getName()));
                Check.holds(c + "." + m.getName() + " takes seven at most", m.getParameterCount() <= 7);
            }
        }
    }

    private static void source(String text) {
        String code = text.replaceAll("(?s)/\\*.*?\\*/", "").replaceAll("//[^\n]*", "");
        for (String word : NO_WORDS) {
            String edge = Character.isLetter(word.charAt(0)) ? "\\b" : "";
            Matcher m = Pattern.compile(edge + Pattern.quote(word) + edge).matcher(code);
            Check.holds("the source has no " + word, !m.find());
        }
        Matcher calls = Pattern.compile("\\b(Math|System|Integer|Long|Arrays)\\.(\\w+)").matcher(code);
        Set<String> allowed = Set.of("Math.max", "Math.min", "Math.abs", "System.arraycopy");
        while (calls.find()) {
            Check.holds(calls.group() + " is of the library that is told", allowed.contains(calls.group()));
        }
        int length = 0;
        for (String line : code.split("\n")) {
            length = line.matches(" {4}(?: {4})?\\S.*\\) \\{") ? 0 : length + 1;
            Check.holds("methods stay short: " + line, length <= 60 || !line.matches(" {4}(?: {4})?\\}"));
        }
        for (char c : text.toCharArray()) {
            Check.holds("signs are 1 to 126", c >= 1 && c <= 126);
        }
    }
}
