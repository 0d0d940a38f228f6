import java.io.IOException;
import java.lang.reflect.Constructor;
import java.lang.reflect.Field;
import java.lang.reflect.Method;
import java.lang.reflect.Modifier;
import java.nio.charset.StandardCharsets;
import java.nio.file.Files;
import java.nio.file.Path;
import java.util.Arrays;
import java.util.List;
import java.util.Set;
import java.util.TreeSet;
import java.util.regex.Matcher;
import java.util.regex.Pattern;

/** The document's face, and what of LANGUAGE.md can be read off the class and its source. */
public final class RulesTest {
    private static final Path SOURCE = Path.of("src/main/java/AnchorThatDrags.java");
    private static final Due due = new Due();

    /** As in the document; I is an int, J a long. */
    private static final String FACE = "sound(III)I chart(IIII)I blow(III)I told(II)I count(I)I feed(IIIIII)I text()I "
        + "force(I)I asks(IIII)I boat(IIII)I let(III)I boatTold(II)I hold(III)I night(III)I fleet(II)I hit(III)I "
        + "wake(I)I goOn(I)I veer(II)I drop(III)I rings(II)I late()I alarm(III)I size(III)I line(III)I marks(IIII)I "
        + "next(III)I two(IIII)I angle(II)I turns(II)J trial(IIII)I rate(III)J form(I)I joined()I judge(II)I which(I)I "
        + "laws(II)I film(III)I drawn(IIII)I chance(IIII)J image()I back()I sheet(III)I cell(III)I copy(IIIII)I "
        + "boatsBy(IIII)I taken(II)I";

    public static void main(String[] args) throws IOException {
        constants();
        face();
        members();
        String source = Files.readString(SOURCE, StandardCharsets.US_ASCII);
        words(source);
        calls(source);
        due.end();
    }

    private static void constants() {
        due.is("NONE", AnchorThatDrags.NONE, -1);
        due.is("BAD", AnchorThatDrags.BAD, -2);
        due.is("STATE", AnchorThatDrags.STATE, -3);
        due.is("FULL", AnchorThatDrags.FULL, -4);
        due.is("NO", AnchorThatDrags.NO, -4611686018427387904L);
    }

    private static void yes(String what, boolean so) {
        due.is(what, so ? 1 : 0, 1);
    }

    private static String letter(Class<?> type) {
        return type == int.class ? "I" : type == long.class ? "J" : "?";
    }

    private static String told(Method m) {
        StringBuilder all = new StringBuilder(m.getName()).append('(');
        Arrays.stream(m.getParameterTypes()).map(RulesTest::letter).forEach(all::append);
        return all.append(')').append(letter(m.getReturnType())).toString();
    }

    private static void face() {
        Class<?> c = AnchorThatDrags.class;
        yes("final and public", Modifier.isFinal(c.getModifiers()) && Modifier.isPublic(c.getModifiers()));
        Constructor<?>[] constructors = c.getDeclaredConstructors();
        yes("one public constructor", constructors.length == 1 && Modifier.isPublic(constructors[0].getModifiers())
            && constructors[0].getParameterCount() == 0);
        Set<String> has = new TreeSet<>();
        for (Method m : c.getDeclaredMethods()) {
            boolean open = Modifier.isPublic(m.getModifiers());
            yes("public or private: " + m, open || Modifier.isPrivate(m.getModifiers()));
            if (open) {
                has.add(told(m));
                yes("no static: " + m, !Modifier.isStatic(m.getModifiers()));
            }
        }
        Set<String> want = new TreeSet<>(List.of(FACE.split(" ")));
        yes("the methods " + has + " are " + want, has.equals(want));
        Set<String> open = new TreeSet<>();
        for (Field f : c.getDeclaredFields()) {
            yes("public or private: " + f, (f.getModifiers() & (Modifier.PUBLIC | Modifier.PRIVATE)) != 0);
            if (Modifier.isPublic(f.getModifiers())) {
                open.add(f.getName());
            }
        }
        yes("the constants " + open, open.equals(Set.of("NONE", "BAD", "STATE", "FULL", "NO")));
    }

    /** Rules 1, 2, 5 and 11. */
    private static void members() {
        Set<String> publicNames = new TreeSet<>();
        Matcher names = Pattern.compile("(\\w+)\\(").matcher(FACE);
        while (names.find()) {
            publicNames.add(names.group(1));
        }
        Class<?>[] inside = AnchorThatDrags.class.getDeclaredClasses();
        yes("some twelve classes", inside.length < 12);
        for (Class<?> c : inside) {
            yes("static: " + c, Modifier.isStatic(c.getModifiers()) && !Modifier.isPublic(c.getModifiers()));
            checkMembers(c, publicNames, false);
        }
        checkMembers(AnchorThatDrags.class, publicNames, true);
    }

    private static void checkMembers(Class<?> c, Set<String> publicNames, boolean outer) {
        for (Method m : c.getDeclaredMethods()) {
            yes("seven parameters at most: " + m, m.getParameterCount() <= 7);
            boolean face = outer && Modifier.isPublic(m.getModifiers());
            yes("a name of its own: " + m, face || !publicNames.contains(m.getName()));
        }
        int own = 0;
        for (Field f : c.getDeclaredFields()) {
            boolean constant = Modifier.isStatic(f.getModifiers());
            yes("no static state: " + f, !constant || Modifier.isFinal(f.getModifiers()));
            own += constant ? 0 : 1;
        }
        yes("some twenty fields: " + c, own <= 20);
    }

    private static String bare(String source) {
        return source.replaceAll("(?s)/\\*.*?\\*/", "").replaceAll("//.*", "")
            .replaceAll("\"(\\\\.|[^\"\\\\])*\"", "\"\"").replaceAll("'(\\\\.|[^'\\\\])'", "' '");
    }

    /** Rules 2 to 6 and 13. */
    private static void words(String source) {
        String bare = bare(source);
        for (String word : List.of("throw", "throws", "try", "catch", "finally", "synchronized", "assert", "package",
                "protected", "volatile", "transient", "native", "equals", "hashCode", "toString", "Object", "var",
                "yield", "Random", "Thread", "Runnable", "System.currentTimeMillis", "System.nanoTime")) {
            yes("without " + word, !Pattern.compile("\\b" + Pattern.quote(word) + "\\b").matcher(bare).find());
        }
        for (String sign : List.of("->", "::", "Exact(", "@", "static {")) {
            yes("without " + sign, !bare.contains(sign));
        }
        Matcher imports = Pattern.compile("import\\s+([\\w.*]+)\\s*;").matcher(bare);
        while (imports.find()) {
            yes("import of " + imports.group(1), imports.group(1).equals("java.util.Arrays"));
        }
        Matcher loops = Pattern.compile("\\b(while|do)\\b").matcher(bare);
        yes("loops with a counter alone", !loops.find());
        yes("signs 10, 32 to 126", source.chars().allMatch(c -> c == 10 || c >= 32 && c < 127));
    }

    /** Rule 4: of the library no function but these. */
    private static void calls(String source) {
        Matcher library = Pattern.compile("\\b(Math|Arrays|System|Integer|Long|String|StringBuilder|Boolean|Character)\\.(\\w+)")
            .matcher(bare(source));
        Set<String> allowed = Set.of("Math.max", "Math.min", "Math.abs", "Arrays.fill", "System.arraycopy");
        while (library.find()) {
            yes("call of " + library.group(), allowed.contains(library.group()));
        }
    }
}
