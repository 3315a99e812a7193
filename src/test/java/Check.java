import java.nio.charset.StandardCharsets;

/** What the tests share: answers held against those that are due, and texts told to an object. */
final class Check {
    private static int made = 0;
    private static int wrong = 0;

    private Check() {
    }

    static void due(String call, long got, long want) {
        made++;
        if (got != want) {
            wrong++;
            System.out.println(call + " answered " + got + ", due is " + want);
        }
    }

    static void due(String call, boolean got, boolean want) {
        due(call, got ? 1 : 0, want ? 1 : 0);
    }

    /** Feeds the text, filled up with blanks, and tells just its own bytes. */
    static int tell(SaidSo x, String text) {
        feed(x, text);
        return x.tell(text.length());
    }

    static void feed(SaidSo x, String text) {
        byte[] bytes = text.getBytes(StandardCharsets.ISO_8859_1);
        for (int i = 0; i < bytes.length; i += 20) {
            x.feed(four(bytes, i), four(bytes, i + 4), four(bytes, i + 8), four(bytes, i + 12), four(bytes, i + 16));
        }
    }

    private static int four(byte[] bytes, int from) {
        int number = 0;
        for (int i = from; i < from + 4; i++) {
            number = number << 8 | (i < bytes.length ? bytes[i] & 255 : ' ');
        }
        return number;
    }

    /** A new object that was told a text without a FAULT. */
    static SaidSo told(String text) {
        SaidSo x = new SaidSo();
        if (tell(x, text) < 0) {
            due("fault of '" + text + "' at " + x.fault(1), x.fault(0), 0);
        }
        return x;
    }

    static int letters(String name) {
        int packed = 0;
        for (int i = 0; i < 6; i++) {
            packed = packed * 32 + (i < name.length() ? name.charAt(i) - 'a' + 1 : 0);
        }
        return packed;
    }

    static void end() {
        System.out.println(made + " answers, " + wrong + " wrong");
        if (wrong != 0) {
            System.exit(1);
        }
    }
}
