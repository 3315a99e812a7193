import java.io.IOException;
import java.lang.reflect.Constructor;
import java.lang.reflect.Field;
import java.lang.reflect.Method;
import java.lang.reflect.Modifier;
import java.nio.file.Files;
import java.nio.file.Path;
import java.util.ArrayList;
import java.util.List;
import java.util.TreeSet;
import java.util.regex.Matcher;
import java.util.regex.Pattern;

/** The document's face, and what of LANGUAGE.md can be seen in the class and in its source. */
final class FaceTest {
    private static final String[] FACE = {
        "int feed(int,int,int,int,int)", "int tell(int)", "int fault(int)", "int named(int,int)", "int look(int,int)",
        "int teller(int,int)", "int line(int,int)", "int say(boolean,int,int,int,int)", "int undo()", "int hear(int)",
        "int word(int)", "int led(int)", "int words(int,int)", "boolean truth(int)", "boolean begin(int,int)",
        "long odds(int,int,int)", "int page(int)", "int left(int)", "int moved(int)", "int story(int,int)",
        "int clash(int,int)", "int together()", "int lies(int)", "int supposed(int)", "int law(int)",
        "int draws(int,int,int)", "int barred(int)", "int jury(int,int)", "int there(int)", "int found(int,int)",
        "int count(int)"};
    private static final String[] BARRED = {"->", "::", "\\bcatch\\b", "\\bfinally\\b", "\\bassert\\b", "\\bsynchronized\\b",
        "\\bSystem\\b", "\\bRandom\\b", "\\bThread\\b", "Exact\\b", "\\bhashCode\\b", "\\btoString\\b", "static \\{",
        "\\bnull\\b", "\\bprotected\\b", "\\bdouble\\b", "\\bfloat\\b"};

    private static final List<String> LIBRARY = List.of("Integer.bitCount", "Math.abs", "Math.max", "Math.min");

    public static void main(String[] args) throws IOException {
        face();
        ownMembers(SaidSo.class);
        for (Class<?> inside : SaidSo.class.getDeclaredClasses()) {
            Check.due(inside + " is static", Modifier.isStatic(inside.getModifiers()), true);
            Check.due(inside + " isn't public", Modifier.isPublic(inside.getModifiers()), false);
            ownMembers(inside);
        }
        Check.due("at most twelve classes", SaidSo.class.getDeclaredClasses().length <= 11, true);
        source();
        Check.end();
    }

    private static String told(Method m) {
        StringBuilder text = new StringBuilder(m.getReturnType().getName() + " " + m.getName() + "(");
        for (Class<?> c : m.getParameterTypes()) {
            text.append(text.charAt(text.length() - 1) == '(' ? "" : ",").append(c.getName());
        }
        return text + ")";
    }

    private static void face() {
        TreeSet<String> due = new TreeSet<>(List.of(FACE));
        TreeSet<String> there = new TreeSet<>();
        List<String> seen = new ArrayList<>();
        for (Method m : SaidSo.class.getDeclaredMethods()) {
            if (Modifier.isPublic(m.getModifiers())) {
                there.add(told(m));
                seen.add(m.getName());
            }
        }
        Check.due("face " + there, there.equals(due), true);
        for (Method m : SaidSo.class.getDeclaredMethods()) {
            boolean hidden = Modifier.isPrivate(m.getModifiers());
            Check.due(m + " is public or private", hidden || Modifier.isPublic(m.getModifiers()), true);
            Check.due(m + " bears the name of a public one", hidden && seen.contains(m.getName()), false);
        }
        for (Class<?> inside : SaidSo.class.getDeclaredClasses()) {
            for (Method m : inside.getDeclaredMethods()) {
                Check.due(m + " bears the name of a public one", seen.contains(m.getName()), false);
            }
        }
        Constructor<?>[] made = SaidSo.class.getDeclaredConstructors();
        Check.due("constructors", made.length, 1);
        Check.due("it is public", Modifier.isPublic(made[0].getModifiers()) && made[0].getParameterCount() == 0, true);
        Check.due("the class", Modifier.isPublic(SaidSo.class.getModifiers()) && Modifier.isFinal(SaidSo.class.getModifiers()), true);
        for (Field f : SaidSo.class.getDeclaredFields()) {
            boolean none = f.getName().equals("NONE");
            Check.due(f + " may be seen", Modifier.isPublic(f.getModifiers()), none);
            Check.due(f + " is hidden", Modifier.isPrivate(f.getModifiers()), !none);
        }
        throwsOf();
    }

    private static void throwsOf() {
        for (Method m : SaidSo.class.getDeclaredMethods()) {
            Check.due(m + " throws", m.getExceptionTypes().length, m.getName().equals("look") ? 2 : 0);
        }
    }

    private static void ownMembers(Class<?> of) {
        int fields = 0;
        for (Field f : of.getDeclaredFields()) {
            boolean isStatic = Modifier.isStatic(f.getModifiers());
            Check.due(f + " is final if static", !isStatic || Modifier.isFinal(f.getModifiers()), true);
            fields += isStatic ? 0 : 1;
        }
        Check.due(of + " has at most twenty fields", fields <= 20, true);
        for (Method m : of.getDeclaredMethods()) {
            Check.due(m + " takes at most seven", m.getParameterCount() <= 7, true);
        }
    }

    private static void source() throws IOException {
        String text = Files.readString(Path.of("src/main/java/SaidSo.java"));
        for (int i = 0; i < text.length(); i++) {
            if (text.charAt(i) > 126 || text.charAt(i) == '\t') {
                Check.due("sign at " + i, text.charAt(i), ' ');
            }
        }
        String code = text.replaceAll("(?s)/\\*.*?\\*/", "").replaceAll("//[^\n]*", "");
        for (String barred : BARRED) {
            Check.due("'" + barred + "' in the source", Pattern.compile(barred).matcher(code).find(), false);
        }
        Check.due("throws", all(code, "\\bthrow new \\w+\\(\"[a-z ]*\"\\);"), all(code, "\\bthrow\\b"));
        Check.due("imports", all(code, "\\bimport\\b"), 1);
        library(code);
        // A method's closing brace stands where the method begins.
        Matcher m = Pattern.compile("(?ms)^( {4}| {8})(?:private|public)[^;={]*\\{\n(.*?)^\\1\\}").matcher(code);
        while (m.find()) {
            if (!m.group().contains(" class ")) {
                Check.due("a method is short: " + m.group().trim().split("\n")[0], m.group(2).split("\n").length <= 60, true);
            }
        }
    }

    /** Rule 4: of the library's classes only functions over int and long, and no constants of theirs. */
    private static void library(String code) {
        Matcher m = Pattern.compile("\\b(Integer|Long|Short|Byte|Character|Boolean|Math|Arrays|String|List)\\s*\\.\\s*(\\w+)(\\()?").matcher(code);
        while (m.find()) {
            String used = m.group(1) + "." + m.group(2);
            Check.due("the library has " + used, m.group(3) != null && LIBRARY.contains(used), true);
        }
    }

    private static int all(String code, String what) {
        int many = 0;
        Matcher m = Pattern.compile(what).matcher(code);
        while (m.find()) {
            many++;
        }
        return many;
    }
}
