import java.io.IOException;
import java.lang.reflect.Array;
import java.lang.reflect.Field;
import java.lang.reflect.Modifier;
import java.nio.file.Files;
import java.nio.file.Path;
import java.util.ArrayDeque;
import java.util.Collections;
import java.util.IdentityHashMap;
import java.util.Set;

/** How much room an object takes, and that no call takes more: all rows are made in constructors. */
final class RoomTest {
    // A run has room for some 600,000 objects and 7.3 million fields and elements: with these bounds, for a thousand objects.
    private static final int MOST_OBJECTS = 100;
    private static final int MOST_ELEMENTS = 6000;

    public static void main(String[] args) throws IOException, IllegalAccessException {
        SaidSo x = new SaidSo();
        Set<Object> first = Collections.newSetFromMap(new IdentityHashMap<>());
        int elements = walk(x, first);
        System.out.println(first.size() + " objects and arrays, " + elements + " fields and elements");
        Check.due(first.size() + " objects are few", first.size() <= MOST_OBJECTS, true);
        Check.due(elements + " fields and elements are few", elements <= MOST_ELEMENTS, true);
        use(x);
        Set<Object> then = Collections.newSetFromMap(new IdentityHashMap<>());
        Check.due("fields and elements then", walk(x, then), elements);
        Check.due("objects then", then.size(), first.size());
        Check.due("they are the same ones", first.containsAll(then), true);
        onlyMadeOnce();
        Check.end();
    }

    /** All that can be reached from an object, and how many fields and elements that has. */
    private static int walk(Object from, Set<Object> seen) throws IllegalAccessException {
        ArrayDeque<Object> open = new ArrayDeque<>();
        open.add(from);
        seen.add(from);
        int elements = 0;
        while (!open.isEmpty()) {
            Object one = open.remove();
            if (one.getClass().isArray()) {
                Check.due("an array holds numbers or booleans", one.getClass().getComponentType().isPrimitive(), true);
                elements += Array.getLength(one);
                continue;
            }
            for (Field f : one.getClass().getDeclaredFields()) {
                if (Modifier.isStatic(f.getModifiers())) {
                    continue;
                }
                elements++;
                f.setAccessible(true);
                Object held = f.getType().isPrimitive() ? null : f.get(one);
                if (held != null && seen.add(held)) {
                    open.add(held);
                }
            }
        }
        return elements;
    }

    private static void use(SaidSo x) {
        String text = "thing a 2 is 0 police 3;thing b 9 is 8 paper 1;teller p 30 begins 0 ends 9;teller q 17 begins 2 ends 8 tape 5;"
                + "ask p 1 a 0;say p 2 a 0;say p 3 b 7;ask q 4 a 1;say q 6 a 0;say q 6 b 8;page q a 0;page q b 8;"
                + "law led * 20 / hours;bar 4 / off > 4;jury (right > wrong) and not new >= 1;";
        for (int i = 0; i < 3; i++) {
            Check.due("a text", Check.tell(x, text), 15);
            Check.due("a word", x.say(true, 1, 7, 0, 1), 6);
            State.of(x);
            Check.due("a text with a fault", Check.tell(x, "law ((("), -1);
            Check.due("undo", x.undo(), 0);
        }
    }

    /** What is made is made for a field, when its object is, or is thrown. */
    private static void onlyMadeOnce() throws IOException {
        String code = Files.readString(Path.of("src/main/java/SaidSo.java")).replaceAll("(?s)/\\*.*?\\*/", "").replaceAll("//[^\n]*", "");
        for (String line : code.split("\n")) {
            if (line.matches(".*\\bnew\\b(?! put lines ).*")) {
                boolean field = line.matches("( {4}| {8})private (final )?[\\w\\[\\]]+ \\w+ = new \\w+(\\(\\)|\\[[^\\]]+\\]);");
                Check.due("made once or thrown: " + line.trim(), field || line.matches(".*\\bthrow new \\w+\\(\"[a-z ]*\"\\);"), true);
            }
        }
    }
}
