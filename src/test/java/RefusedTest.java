import java.util.function.Consumer;

/**
 * A call that is refused leaves everything as it was, and so does one that only asks: what an object answers
 * behind it is held against what one answers that was never called so. An object gets fewer than 512 calls.
 */
final class RefusedTest {
    private static final int MIN = Integer.MIN_VALUE;
    private static final int MAX = Integer.MAX_VALUE;
    private static final int BLANKS = 0x20202020;
    private static final String TEXT = "thing a 4 is 2 police 6;thing b 9 is 8 paper 7;thing c 2 is 0;"
            + "teller p 30 begins 5 ends 9;teller q 17 begins 2 ends 8 tape 5;"
            + "ask p 6 a 2;say p 6 a 2;say p 7 b 7;ask q 3 a;ask q 4 a 1;say q 4 a 1;say q 6 a 2;say q 6 b 8;"
            + "page q a 2;page q b 7;page p b 7;page q a 1;law led * 20 + hours;bar off > 5;jury right >= wrong;";

    public static void main(String[] args) {
        feeds();
        tells();
        faults();
        looks();
        says();
        undos();
        hears();
        truths();
        begins();
        theres();
        asks();
        answers();
        Check.end();
    }

    /** An object in which nothing is as at first. */
    private static SaidSo made() {
        SaidSo x = Check.told(TEXT);
        x.truth(7);
        x.begin(3, 5);
        x.there(2);
        x.say(true, 0, 8, 2, 0);
        x.say(false, 1, 8, 2, 1);
        x.hear(7);
        return x;
    }

    private static void stays(String call, Consumer<SaidSo> called) {
        SaidSo x = made();
        called.accept(x);
        State.same(call, State.of(x), State.of(made()));
        // What isn't heard stays too.
        SaidSo y = made();
        called.accept(y);
        y.hear(199);
        SaidSo z = made();
        z.hear(199);
        State.same(call + " and hear(199)", State.of(y), State.of(z));
        // And the same can be told and taken back.
        Check.due("undo behind " + call, y.undo(), 1);
        Check.due("say behind " + call, y.say(true, 1, 8, 0, 3), 9);
    }

    private static void feeds() {
        Check.promise(2, "NONE, and none come, if there would be more than 800.");
        stays("feed beyond 800", x -> {
            for (int i = 0; i < 40; i++) {
                Check.due("feed", x.feed(BLANKS, BLANKS, BLANKS, BLANKS, BLANKS), 20 * i + 20);
            }
            Check.due("feed", x.feed(0x21212121, 0, -1, MAX, MIN), -1);
        });
        // The bytes that were there are there still, and no more.
        SaidSo x = made();
        Check.feed(x, " ".repeat(780) + "law 1;bar 1;");
        Check.due("feed", x.feed(0x21212121, 0x21212121, 0x21212121, 0x21212121, 0x21212121), -1);
        Check.due("tell(801)", x.tell(801), -2);
        Check.due("tell(800)", x.tell(800), 2);
    }

    private static void tells() {
        Check.promise(3, "-2, and the bytes stay: there are not so many, n is below 0.");
        for (int n : new int[] {-1, 21, 800, 801, MIN, MAX}) {
            stays("tell(" + n + ")", x -> {
                x.feed(0x6c617720, 0x313b2020, BLANKS, BLANKS, BLANKS);
                Check.due("tell(" + n + ")", x.tell(n), -2);
            });
            SaidSo x = made();
            x.feed(0x6c617720, 0x313b2020, BLANKS, BLANKS, BLANKS);
            Check.due("tell(" + n + ")", x.tell(n), -2);
            Check.due("feed", x.feed(BLANKS, BLANKS, BLANKS, BLANKS, BLANKS), 40);
            Check.due("tell(40)", x.tell(40), 1);
            Check.due("a law", x.count(5), 1);
        }
        // A FAULT of the tell() ahead stays as well.
        SaidSo x = new SaidSo();
        Check.tell(x, "law 1;!");
        Check.due("tell(1)", x.tell(1), -2);
        Check.due("fault(0)", x.fault(0), 1);
        Check.due("fault(1)", x.fault(1), 6);
    }

    private static void faults() {
        Check.promise(3, "NONE with a FAULT, all stays");
        String[] texts = {"!", "thing z 9 is 9;", "thing a 2 is 0;thing a", "ask z 1 z;",
            "teller p 9 begins 0 ends 9;thing a 2 is 0;ask p 5 a;ask p 4 a;",
            TEXT + "!", TEXT.replace("4 is 2", "5 is 1").replace(" 30 ", " 31 ") + "law 2;", "law 1;bar 2;jury 3;thing"};
        for (String text : texts) {
            SaidSo x = made();
            Check.due("tell '" + text + "'", Check.tell(x, text), -1);
            // All but the fault itself, which is of this tell().
            State.same("'" + text + "'", withoutFault(State.of(x)), withoutFault(State.of(made())));
            Check.due("the bytes are gone", x.tell(1), -2);
            SaidSo y = made();
            Check.tell(y, text);
            Check.tell(y, text);
            y.hear(199);
            SaidSo z = made();
            z.hear(199);
            State.same("'" + text + "' twice", withoutFault(State.of(y)), withoutFault(State.of(z)));
            Check.due("undo", y.undo(), 1);
            // A good text behind it is read as by a new object, but for TRUTH and the ODDS to begin with.
            SaidSo again = made();
            Check.tell(again, text);
            Check.tell(again, TEXT);
            SaidSo fresh = Check.told(TEXT);
            fresh.truth(7);
            fresh.begin(3, 5);
            State.same("'" + text + "' and a good text", State.of(again), State.of(fresh));
        }
    }

    private static String withoutFault(String state) {
        return state.replaceAll("fault\\(.\\) is .*\n", "");
    }

    private static void looks() {
        Check.promise(6, "IndexOutOfBoundsException: no such THING. NoSuchElementException: no such what.");
        int[][] bad = {{3, 0}, {-1, 0}, {MAX, 3}, {MIN, 0}, {0, 4}, {2, -1}, {0, MAX}, {0, MIN}, {3, 4}};
        for (int[] pair : bad) {
            int thrown = pair[0] < 0 || pair[0] > 2 ? -10 : -11;
            stays("look(" + pair[0] + ", " + pair[1] + ")", x -> Check.due("look", Check.looked(x, pair[0], pair[1]), thrown));
        }
    }

    private static void says() {
        Check.promise(9, "NONE: it can't be, value NONE for a WORD.");
        int[][] bad = {{2, 8, 0, 0}, {-1, 8, 0, 0}, {0, 10, 0, 0}, {0, 4, 0, 0}, {0, 7, 0, 0}, {0, 8, 3, 0}, {0, 8, -1, 0}, {0, 8, 0, 4}, {0, 8, 0, -2},
            {MAX, MAX, MAX, MAX}, {MIN, MIN, MIN, MIN}, {0, 8, 0, -1}};
        for (int[] b : bad) {
            String call = "say(" + b[0] + ", " + b[1] + ", " + b[2] + ", " + b[3] + ")";
            stays(call, x -> Check.due(call, x.say(true, b[0], b[1], b[2], b[3]), -1));
            if (b[3] != -1) {
                stays(call, x -> Check.due(call, x.say(false, b[0], b[1], b[2], b[3]), -1));
            }
        }
        // A 61st: the sixty that there are stay.
        SaidSo x = made();
        for (int i = 10; i < 60; i++) {
            Check.due("say", x.say(true, 0, 9, 2, i % 2), i);
        }
        Check.due("a 61st", x.say(false, 1, 8, 0, -1), -1);
        Check.due("a 61st", x.say(true, 1, 8, 0, 3), -1);
        Check.due("lines", x.count(2), 60);
        Check.due("lines by say()", x.count(7), 52);
        Check.due("heard up to", x.hear(199), 60);
        int[] last = {1, 0, 9, 2, 1};
        for (int what = 0; what < 5; what++) {
            Check.due("line(59, " + what + ")", x.line(59, what), last[what]);
        }
        Check.due("line(60, 0)", x.line(60, 0), -2);
        Check.due("story(1, 0)", x.story(1, 0), 2);
        Check.due("undo", x.undo(), 51);
    }

    private static void undos() {
        Check.promise(10, "NONE: none.");
        SaidSo x = Check.told(TEXT);
        x.hear(6);
        Check.due("undo", x.undo(), -1);
        SaidSo y = Check.told(TEXT);
        y.hear(6);
        State.same("undo()", State.of(x), State.of(y));
        x = made();
        x.undo();
        x.undo();
        Check.due("undo", x.undo(), -1);
        y = made();
        y.undo();
        y.undo();
        State.same("undo()", State.of(x), State.of(y));
        // What say() told and undo() took back leaves nothing behind.
        stays("say() and undo()", z -> {
            z.say(true, 0, 9, 0, 3);
            z.undo();
        });
    }

    private static void hears() {
        Check.promise(11, "NONE: no such HOUR.");
        for (int hour : new int[] {-1, 200, MIN, MAX}) {
            stays("hear(" + hour + ")", x -> Check.due("hear(" + hour + ")", x.hear(hour), -1));
        }
        stays("hear(0) and hear(7)", x -> {
            x.hear(0);
            x.hear(7);
        });
    }

    private static void truths() {
        Check.promise(15, "false: no such one.");
        for (int of10 : new int[] {0, 10, -1, MIN, MAX}) {
            stays("truth(" + of10 + ")", x -> Check.due("truth(" + of10 + ")", x.truth(of10), false));
        }
    }

    private static void begins() {
        Check.promise(16, "false: no such ones.");
        int[][] bad = {{0, 1}, {1, 0}, {100, 1}, {1, 100}, {-1, -1}, {MIN, 99}, {99, MAX}};
        for (int[] pair : bad) {
            stays("begin(" + pair[0] + ", " + pair[1] + ")", x -> Check.due("begin", x.begin(pair[0], pair[1]), false));
        }
    }

    private static void theres() {
        Check.promise(30, "NONE: bits of no TELLERS.");
        for (int set : new int[] {4, 5, 7, -1, 32, MIN, MAX}) {
            stays("there(" + set + ")", x -> Check.due("there(" + set + ")", x.there(set), -1));
        }
    }

    /** Calls that ask for what there isn't. */
    private static void asks() {
        Check.sentence("Nothing is promised beyond the answers and state changes described above");
        int[] none = {MIN, -1, 99, 200, MAX};
        for (int no : none) {
            stays("calls with " + no, x -> {
                Check.due("fault", x.fault(no), -1);
                Check.due("named", x.named(no, 1 << 25), -1);
                Check.due("teller", x.teller(no, 0), -1);
                Check.due("line", x.line(no, 0), -2);
                Check.due("word", x.word(no), -1);
                Check.due("led", x.led(no), -1);
                Check.due("words", x.words(no, 1), -1);
                Check.due("odds", x.odds(no, 0, 0), -1);
                Check.due("odds", x.odds(0, no, 0), -1);
                Check.due("odds", x.odds(0, 0, no), -1);
                Check.due("page", x.page(no), -1);
                Check.due("left", x.left(no), -1);
                Check.due("moved", x.moved(no), -1);
                Check.due("story", x.story(no, 0), -2);
                Check.due("story", x.story(0, no), -2);
                Check.due("clash", x.clash(0, no), -1);
                Check.due("lies", x.lies(no), -1);
                Check.due("supposed", x.supposed(no), -1);
                Check.due("law", x.law(no), -1);
                Check.due("draws", x.draws(no, 0, 1), -1);
                Check.due("barred", x.barred(no), -1);
                Check.due("jury", x.jury(0, no), -1);
                Check.due("found", x.found(no, 0), -1);
                Check.due("found", x.found(0, no), -1);
                Check.due("count", x.count(no), -1);
            });
        }
    }

    /** Calls that are answered, but only ask. */
    private static void answers() {
        Check.sentence("Nothing is promised beyond the answers and state changes described above");
        stays("draws", x -> {
            x.draws(0, 1, 99);
            x.draws(1, MAX, 99);
        });
        stays("odds", x -> {
            x.odds(0, 0, 0);
            x.odds(1, 1, 1);
            x.odds(1, 2, 0);
        });
        stays("jury, barred, law", x -> {
            x.jury(0, 0);
            x.jury(1, 1);
            x.barred(1);
            x.law(1);
            x.found(1, 1);
        });
        stays("together, lies, moved", x -> {
            x.together();
            x.lies(3);
            x.moved(1);
            x.moved(0);
        });
    }
}
