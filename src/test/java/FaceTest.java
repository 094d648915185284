import java.io.IOException;
import java.lang.reflect.Constructor;
import java.lang.reflect.Field;
import java.lang.reflect.Method;
import java.lang.reflect.Modifier;
import java.nio.charset.StandardCharsets;
import java.nio.file.Files;
import java.nio.file.Path;
import java.util.Set;
import java.util.TreeSet;
import java.util.regex.Pattern;

/** The face is the document's and no more, and the rules of the language that can be read off are kept. */
public final class FaceTest {
    private static final Checks checks = new Checks("FaceTest");
    private static final String[] FACE = {
        "about(int,int)", "add(int,int,int,int)", "copy(int)", "count(int)", "degree(int,int)",
        "draw(int,int,int,int)", "drop()", "end(int)", "event(int,int,int)", "fault()", "feed(long)",
        "first(int,int,int)", "front()", "join(int,int)", "lay(int,int,int)", "link(int,int,int)",
        "move(int,int,int)", "number(int,int,int)", "piece(int,int,int)", "push(int,int,int)",
        "rulings(int,int,int)", "sheet(int,int,int)", "sign(int,int)", "unlike(int,int)"};
    private static final String[] FORBIDDEN = {
        "throw", "throws", "try", "catch", "synchronized", "assert", "protected", "volatile", "finally",
        "\\w*Exact", "->", "::", "import", "package"};

    public static void main(String[] args) throws IOException {
        methods();
        constants();
        nestedClasses();
        staticFields();
        source();
        checks.finish();
    }

    private static void methods() {
        Class<?> face = CornerFronts.class;
        checks.holds("the class is final", Modifier.isFinal(face.getModifiers()));
        checks.holds("the class is public", Modifier.isPublic(face.getModifiers()));
        Set<String> shown = new TreeSet<>();
        Set<String> shownNames = new TreeSet<>();
        for (Method m : face.getDeclaredMethods()) {
            if (!Modifier.isPrivate(m.getModifiers()) && !m.isSynthetic()) {
                shown.add(signature(m));
                shownNames.add(m.getName());
                checks.holds(m + " is public", Modifier.isPublic(m.getModifiers()));
                checks.holds(m + " answers an int", m.getReturnType() == int.class);
                checks.holds(m + " is of an object", !Modifier.isStatic(m.getModifiers()));
            }
        }
        checks.holds("the methods are the document's: " + shown, shown.equals(new TreeSet<>(Set.of(FACE))));
        for (Method m : face.getDeclaredMethods()) {
            boolean hidden = Modifier.isPrivate(m.getModifiers());
            checks.holds(m + " has a name of its own", !hidden || !shownNames.contains(m.getName()));
        }
        for (Class<?> inside : face.getDeclaredClasses()) {
            for (Method m : inside.getDeclaredMethods()) {
                checks.holds(m + " has a name of its own", !shownNames.contains(m.getName()));
                checks.holds(m + " takes at most seven", m.getParameterCount() <= 7);
            }
        }
        Constructor<?>[] made = face.getDeclaredConstructors();
        checks.due("constructors", made.length, 1);
        checks.holds("it is public", Modifier.isPublic(made[0].getModifiers()));
        checks.due("its parameters", made[0].getParameterCount(), 0);
    }

    private static String signature(Method m) {
        StringBuilder b = new StringBuilder(m.getName()).append('(');
        for (Class<?> c : m.getParameterTypes()) {
            b.append(b.charAt(b.length() - 1) == '(' ? "" : ",").append(c.getName());
        }
        return b.append(')').toString();
    }

    private static void constants() {
        checks.due("BAD", CornerFronts.BAD, -1);
        checks.due("STATE", CornerFronts.STATE, -2);
        checks.due("FULL", CornerFronts.FULL, -3);
        checks.due("NONE", CornerFronts.NONE, -4);
        Set<String> shown = new TreeSet<>();
        for (Field f : CornerFronts.class.getDeclaredFields()) {
            if (!Modifier.isPrivate(f.getModifiers())) {
                shown.add(f.getName());
            }
        }
        checks.holds("the fields shown are the document's: " + shown,
            shown.equals(Set.of("BAD", "STATE", "FULL", "NONE")));
    }

    private static void nestedClasses() {
        Class<?>[] inside = CornerFronts.class.getDeclaredClasses();
        checks.holds("there are at most twelve classes", inside.length < 12);
        for (Class<?> c : inside) {
            checks.holds(c + " is static", Modifier.isStatic(c.getModifiers()));
            checks.holds(c + " is not shown",
                !Modifier.isPublic(c.getModifiers()) && !Modifier.isProtected(c.getModifiers()));
        }
    }

    private static void staticFields() {
        staticFields(CornerFronts.class);
        for (Class<?> c : CornerFronts.class.getDeclaredClasses()) {
            staticFields(c);
        }
    }

    private static void staticFields(Class<?> c) {
        int own = 0;
        for (Field f : c.getDeclaredFields()) {
            boolean fixed = Modifier.isStatic(f.getModifiers());
            checks.holds(f + " is final if it is static", !fixed || Modifier.isFinal(f.getModifiers()));
            own += fixed ? 0 : 1;
        }
        checks.holds(c + " has at most twenty fields", own <= 20);
    }

    private static void source() throws IOException {
        Path path = Path.of("src/main/java/CornerFronts.java");
        String text = Files.readString(path, StandardCharsets.ISO_8859_1);
        String code = text.replaceAll("(?s)/\\*.*?\\*/", " ").replaceAll("//.*", " ");
        for (String word : FORBIDDEN) {
            String found = Character.isLetter(word.charAt(0)) || word.charAt(0) == '\\' ? "\\b" + word + "\\b" : word;
            checks.holds("'" + word + "' is not used", !Pattern.compile(found).matcher(code).find());
        }
        checks.holds("it is plain text", text.chars().allMatch(ch -> ch < 128));
    }
}
