import java.lang.reflect.Constructor;
import java.lang.reflect.Field;
import java.lang.reflect.Method;
import java.lang.reflect.Modifier;
import java.nio.file.Files;
import java.nio.file.Path;
import java.util.ArrayList;
import java.util.List;
import java.util.Set;
import java.util.TreeSet;
import java.util.regex.Matcher;
import java.util.regex.Pattern;

/** The rules of ../shared/LANGUAGE.md that a look at the class or its text can tell; run in the project's folder. */
public final class RulesTest {
    private static final Path SOURCE = Path.of("src/main/java/CurveFoundry.java");
    private static final Path DOCUMENT = Path.of("../shared/DOC.md");

    private RulesTest() {
    }

    private static Set<String> faceOfTheDocument() throws Exception {
        Set<String> face = new TreeSet<>();
        Matcher m = Pattern.compile("(?m)^    public (.*)\\((.*)\\);$").matcher(Files.readString(DOCUMENT));
        while (m.find()) {
            face.add(m.group(1) + "(" + m.group(2).replaceAll(" \\w+(,|$)", "$1") + ")");
        }
        return face;
    }

    private static String listed(Class<?>[] types) {
        List<String> names = new ArrayList<>();
        for (Class<?> t : types) {
            names.add(t.getSimpleName());
        }
        return "(" + String.join(", ", names) + ")";
    }

    private static void face() throws Exception {
        Set<String> face = new TreeSet<>();
        for (Method m : CurveFoundry.class.getDeclaredMethods()) {
            if (!Modifier.isPrivate(m.getModifiers())) {
                Check.holds(m + " is public and of objects", m.getModifiers() == Modifier.PUBLIC);
                face.add(m.getReturnType().getSimpleName() + " " + m.getName() + listed(m.getParameterTypes()));
            }
        }
        for (Constructor<?> c : CurveFoundry.class.getDeclaredConstructors()) {
            Check.holds(c + " is public", Modifier.isPublic(c.getModifiers()));
            face.add("CurveFoundry" + listed(c.getParameterTypes()));
        }
        Set<String> due = faceOfTheDocument();
        Check.due("members of the document's face", due.size(), 35);
        Check.holds("the face is the document's: " + face + " for " + due, face.equals(due));
        Check.due("public and final", CurveFoundry.class.getModifiers(), Modifier.PUBLIC | Modifier.FINAL);
    }

    private static List<Class<?>> allClasses() {
        List<Class<?>> all = new ArrayList<>(List.of(CurveFoundry.class.getDeclaredClasses()));
        for (Class<?> c : all) {
            Check.holds(c + " is static and not public", Modifier.isStatic(c.getModifiers())
                && !Modifier.isPublic(c.getModifiers()) && !Modifier.isProtected(c.getModifiers()));
        }
        all.add(CurveFoundry.class);
        return all;
    }

    private static void members() {
        List<Class<?>> all = allClasses();
        Check.holds("at most twelve classes", all.size() <= 12);
        Set<String> open = new TreeSet<>();
        for (Method m : CurveFoundry.class.getMethods()) {
            open.add(m.getName());
        }
        for (Class<?> c : all) {
            int fields = 0;
            for (Field f : c.getDeclaredFields()) {
                boolean constant = Modifier.isStatic(f.getModifiers());
                fields += constant ? 0 : 1;
                Check.holds(f + " is private", Modifier.isPrivate(f.getModifiers()));
                Check.holds(f + " is a constant of int or long", !constant || Modifier.isFinal(f.getModifiers())
                    && (f.getType() == int.class || f.getType() == long.class));
            }
            Check.holds(c + " has at most twenty fields", fields <= 20);
            for (Method m : c.getDeclaredMethods()) {
                Check.holds(m + " has at most seven parameters", m.getParameterCount() <= 7);
                Check.holds(m + " bears no name of the face", c == CurveFoundry.class
                    && Modifier.isPublic(m.getModifiers()) || !open.contains(m.getName()));
            }
        }
    }

    private static void words() throws Exception {
        String text = Files.readString(SOURCE).replaceAll("(?s)/\\*.*?\\*/", "").replaceAll("//.*", "");
        String[] barred = {"\\bimport\\b", "\\bpackage\\b", "->", "::", "@", "\\bthrow\\b", "\\btry\\b", "\\bcatch\\b",
            "\\bsynchronized\\b", "\\bassert\\b", "\\bfinally\\b", "\\bstatic\\s*\\{", "Exact\\b", "\\bSystem\\b",
            "\\bvar\\b", "\\bObject\\b", "\\bprotected\\b", "\\bNaN\\b", "[^\\x00-\\x7F]"};
        for (String b : barred) {
            Check.holds("the class has no " + b, !Pattern.compile(b).matcher(text).find());
        }
        Matcher m = Pattern.compile("\\bMath\\.(\\w+)").matcher(text);
        while (m.find()) {
            Check.holds("Math." + m.group(1), Set.of("max", "min", "abs", "floorDiv").contains(m.group(1)));
        }
    }

    private static void lengths() throws Exception {
        int began = 0;
        int line = 0;
        String ends = null;
        for (String text : Files.readAllLines(SOURCE)) {
            line++;
            Check.holds("line " + line + " is short", text.length() <= 120);
            if (ends == null && text.matches("    (    )?[^ /*].*\\) \\{")) {
                began = line;
                ends = text.substring(0, text.length() - text.stripLeading().length()) + "}";
            } else if (text.equals(ends)) {
                Check.holds("the method at line " + began + " is short", line - began <= 60);
                ends = null;
            }
        }
    }

    public static void main(String[] args) throws Exception {
        face();
        members();
        words();
        lengths();
        Check.finish();
    }
}
