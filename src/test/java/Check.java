import java.nio.charset.StandardCharsets;
import java.util.NoSuchElementException;

/** What the tests share: answers held against those that are due, and texts told to an object. */
final class Check {
    private static int made = 0;
    private static int wrong = 0;
    private static String sentence = "";

    private Check() {
    }

    /** The sentence of the document, out of its promises, that the checks behind this are of; QuoteTest looks it up. */
    static void sentence(String quote) {
        sentence = " [" + quote + "]";
    }

    /** The same, for a sentence of a promise. */
    static void promise(int number, String quote) {
        sentence = " [promise " + number + ": " + quote + "]";
    }

    static void due(String call, long got, long want) {
        made++;
        if (got != want) {
            wrong++;
            System.out.println(call + " answered " + got + ", due is " + want + sentence);
        }
    }

    static void due(String call, boolean got, boolean want) {
        due(call, got ? 1 : 0, want ? 1 : 0);
    }

    /** Feeds the text, filled up with blanks, and tells just its own bytes. */
    static int tell(SaidSo x, String text) {
        feed(x, text);
        return x.tell(text.length());
    }

    static void feed(SaidSo x, String text) {
        byte[] bytes = text.getBytes(StandardCharsets.ISO_8859_1);
        for (int i = 0; i < bytes.length; i += 20) {
            x.feed(four(bytes, i), four(bytes, i + 4), four(bytes, i + 8), four(bytes, i + 12), four(bytes, i + 16));
        }
    }

    private static int four(byte[] bytes, int from) {
        int number = 0;
        for (int i = from; i < from + 4; i++) {
            number = number << 8 | (i < bytes.length ? bytes[i] & 255 : ' ');
        }
        return number;
    }

    /** A new object that was told a text without a FAULT. */
    static SaidSo told(String text) {
        SaidSo x = new SaidSo();
        if (tell(x, text) < 0) {
            due("fault of '" + text + "' at " + x.fault(1), x.fault(0), 0);
        }
        return x;
    }

    /** Tells a text that has no FAULT and so many LINES. */
    static void good(int lines, String text) {
        SaidSo x = new SaidSo();
        due("tell '" + text + "'", tell(x, text), lines);
        due("fault of '" + text + "'", x.fault(0), 0);
        due("its place", x.fault(1), -1);
    }

    /** Tells a text with a FAULT. A '^' shows its place, and isn't in the text. */
    static void fault(int fault, String marked) {
        SaidSo x = new SaidSo();
        String text = marked.replaceFirst("\\^", "");
        due("tell '" + marked + "'", tell(x, text), -1);
        due("fault of '" + marked + "'", x.fault(0), fault);
        due("its place", x.fault(1), marked.indexOf('^'));
    }

    /** One piece for each of so many letters, with the letter in its midst. */
    static String each(String head, char first, int many, String tail) {
        StringBuilder text = new StringBuilder();
        for (int i = 0; i < many; i++) {
            text.append(head).append((char) (first + i)).append(tail);
        }
        return text.toString();
    }

    /** What look() answers; -10: it throws an IndexOutOfBoundsException, -11: a NoSuchElementException, of just that class. */
    static int looked(SaidSo x, int thing, int what) {
        try {
            return x.look(thing, what);
        } catch (IndexOutOfBoundsException | NoSuchElementException e) {
            return e.getClass() == IndexOutOfBoundsException.class ? -10 : e.getClass() == NoSuchElementException.class ? -11 : -12;
        }
    }

    static int letters(String name) {
        int packed = 0;
        for (int i = 0; i < 6; i++) {
            packed = packed * 32 + (i < name.length() ? name.charAt(i) - 'a' + 1 : 0);
        }
        return packed;
    }

    static void end() {
        System.out.println(made + " answers, " + wrong + " wrong");
        if (wrong != 0) {
            System.exit(1);
        }
    }
}
