/** Promises 26 to 31: law, draws, barred, jury, there, found; and how an E is worked out. */
final class CourtTest {
    private static final String[] NAMES = {"age", "hours", "off", "asks", "led", "right", "wrong", "new", "put", "lines"};

    public static void main(String[] args) {
        values();
        errors();
        lawLimits();
        lawNames();
        talkNames();
        pageNames();
        tapeNames();
        draws();
        drawLimits();
        verdicts();
        Check.end();
    }

    /** What an E without names is worth, by a jury that compares it. */
    private static void worth(String e, long want) {
        String sign = want < 0 ? "0 - " + -want : "" + want;
        SaidSo x = Check.told("teller p 9 begins 0 ends 9;jury (" + e + ") = " + sign + ";");
        Check.due(e + " is " + want, x.jury(0, 2), 1);
    }

    private static void values() {
        worth("1 + 2 * 3", 7);
        worth("(1 + 2) * 3", 9);
        worth("10 - 4 - 3", 3);
        worth("10 - (4 - 3)", 9);
        worth("100 / 10 / 5", 2);
        worth("100 / (10 / 5)", 50);
        worth("100 / 10 * 5", 50);
        worth("7 / 2", 3);
        worth("(0 - 7) / 2", -3);
        worth("7 / (0 - 2)", -3);
        worth("1 < 2", 1);
        worth("2 < 2", 0);
        worth("2 <= 2", 1);
        worth("3 <= 2", 0);
        worth("2 = 2", 1);
        worth("2 = 3", 0);
        worth("2 <> 2", 0);
        worth("2 <> 3", 1);
        worth("2 >= 2", 1);
        worth("1 >= 2", 0);
        worth("2 > 2", 0);
        worth("3 > 2", 1);
        worth("1 + 1 < 3 - 1 * 0", 1);
        worth("5 and 7", 1);
        worth("5 and 0", 0);
        worth("0 or 7", 1);
        worth("0 or 0", 0);
        worth("1 or 0 and 0", 1);
        worth("(1 or 0) and 0", 0);
        worth("not 0", 1);
        worth("not 5", 0);
        worth("not not 5", 1);
        worth("not 0 - 1", 0);
        worth("not 1 < 0", 1);
        worth("not 1 and 0", 0);
        worth("not (1 and 0)", 1);
        worth("not 0 or 1", 1);
        worth("0 - 1 and 1", 1);
        worth("(1 < 2) + (3 < 4)", 2);
        worth("(1<2)<(3<5)", 0);
        worth("0012", 12);
    }

    private static int jury(String e) {
        return Check.told("teller p 9 begins 0 ends 9;jury " + e + ";").jury(0, 2);
    }

    private static void errors() {
        String million = "(100 * 100 * 100)";
        Check.due("10 to the 12", jury(million + " * " + million), 1);
        Check.due("above it", jury(million + " * " + million + " + 1"), 0);
        Check.due("just below it", jury(million + " * " + million + " + 1 - 1"), 0);
        Check.due("below 0 as far", jury("0 - " + million + " * " + million), 1);
        Check.due("below 0 farther", jury("0 - " + million + " * " + million + " - 1"), 0);
        Check.due("a product too large", jury(million + " * (" + million + " + 1)"), 0);
        Check.due("a product that no long holds", jury("(" + million + " * " + million + ") * (" + million + " * " + million + ")"), 0);
        Check.due("the same below 0", jury("(0 - " + million + " * " + million + ") * (" + million + " * " + million + ")"), 0);
        Check.due("times 0", jury("not " + million + " * " + million + " * 0"), 1);
        Check.due("by 0", jury("1 / 0"), 0);
        Check.due("by 0 in a side that doesn't matter", jury("1 or 1 / 0"), 0);
        Check.due("by 0 in a side that doesn't matter", jury("not (0 and 1 / 0)"), 0);
        Check.due("by 0 under not", jury("not 1 / 0"), 0);
        Check.due("0 by 1", jury("not 0 / 1"), 1);
        SaidSo x = Check.told("teller p 9 begins 0 ends 9;bar 1 / 0;jury 1;");
        Check.due("a bar with an error", x.barred(0), 0);
        x = Check.told("teller p 9 begins 0 ends 9;bar 2;");
        Check.due("a bar", x.barred(0), 1);
        Check.due("no jury", x.jury(0, 0), 0);
        Check.due("barred(1)", x.barred(1), -1);
        Check.due("barred(-1)", x.barred(-1), -1);
    }

    private static int law(String e) {
        return Check.told("thing a 4 is 2;teller p 9 begins 0 ends 9;say p 3 a 1;law " + e + ";").law(0);
    }

    private static void lawLimits() {
        Check.due("law 0", law("0"), 0);
        Check.due("law 100", law("100"), 100);
        Check.due("law 101", law("101"), 100);
        Check.due("law 999", law("999 * 999"), 100);
        Check.due("law below 0", law("0 - 1"), 0);
        Check.due("law 37", law("37"), 37);
        Check.due("law with an error", law("1 / (age - 9)"), 50);
        SaidSo x = Check.told("thing a 4 is 2;teller p 9 begins 0 ends 9;say p 3 a 1;ask p 3 a;");
        Check.due("no law", x.law(0), 50);
        Check.due("law of an ask", x.law(1), -1);
        Check.due("law of no line", x.law(2), -1);
        Check.due("law of no line", x.law(-1), -1);
        x.hear(2);
        Check.due("law of what isn't heard", x.law(0), -1);
    }

    private static void lawName(String head, int line, int... want) {
        for (int i = 0; i < NAMES.length; i++) {
            Check.due(NAMES[i] + " at word " + line, Check.told(head + "law " + NAMES[i] + ";").law(line), want[i]);
        }
    }

    private static void lawNames() {
        String head = "thing a 4 is 2;thing b 4 is 1;teller p 17 begins 3 ends 9 tape 6;teller q 18 begins 3 ends 9;"
                + "teller r 19 begins 3 ends 9 tape 3;"
                + "ask p 3 a;ask q 3 a 1;ask p 4 b 2;say p 4 a 2;ask p 5 a 1;say p 5 b 1;say p 8 a 2;say q 5 a 1;say r 7 a 1;"
                + "page p a 2;page q a 3;";
        lawName(head, 3, 17, 1, 2, 2, 1, 0, 0, 0, 0, 0);
        lawName(head, 5, 17, 2, 3, 3, 2, 0, 0, 0, 0, 0);
        lawName(head, 6, 17, 5, 3, 3, 2, 0, 0, 0, 0, 0);
        lawName(head, 7, 18, 2, 3, 1, 1, 0, 0, 0, 0, 0);
        lawName(head, 8, 19, 4, 0, 0, 0, 0, 0, 0, 0, 0);
    }

    private static void names(String head, int teller, int by, int hear, int... want) {
        for (int i = 0; i < NAMES.length; i++) {
            SaidSo x = Check.told(head + "jury " + NAMES[i] + " = " + want[i] + ";bar " + NAMES[i] + " = " + want[i] + ";");
            x.hear(hear);
            Check.due(NAMES[i] + " of " + teller + " by " + by + " is " + want[i], x.jury(teller, by), 1);
            if (by == 2) {
                Check.due(NAMES[i] + " of " + teller + " for bar is " + want[i], x.barred(teller), 1);
            }
        }
    }

    private static final String TALK = "thing a 4 is 2;thing b 4 is 1 police 4;thing c 4 is 0 paper 9;"
            + "teller p 17 begins 3 ends 9 tape 6;teller q 18 begins 3 ends 9;"
            + "ask p 3 a;ask p 3 a 1;say p 4 a 1;say p 5 b 1;ask p 6 a 2;say p 7 a 2;say p 7 b 0;say p 8 c 0;ask q 3 c 1;say q 4 c 1;"
            + "page p a 2;page p a 1;page p a 3;page q c 3;page q a 2;page p b 3;page p c 0;";

    private static void talkNames() {
        names(TALK, 0, 2, 199, 17, 6, 3, 3, 2, 2, 1, 1, 2, 5);
        names(TALK, 1, 2, 199, 18, 6, 7, 1, 1, 0, 1, 0, 2, 2);
        names(TALK, 0, 2, 5, 17, 6, 3, 2, 1, 1, 1, 0, 4, 5);
        names(TALK, 0, 2, 0, 17, 6, 3, 0, 0, 0, 0, 0, 5, 5);
    }

    private static void pageNames() {
        names(TALK, 0, 0, 199, 17, 0, 0, 0, 0, 2, 1, 0, 0, 5);
        names(TALK, 1, 0, 199, 18, 0, 0, 0, 0, 1, 1, 0, 0, 2);
        names(TALK, 1, 0, 0, 18, 0, 0, 0, 0, 1, 1, 0, 0, 2);
    }

    private static void tapeNames() {
        // On tape a and c are first and right, b is first and wrong; a and c are new.
        names(TALK, 0, 1, 199, 17, 3, 0, 1, 1, 2, 1, 2, 0, 0);
        names(TALK, 0, 1, 7, 17, 3, 0, 1, 1, 1, 1, 1, 0, 0);
        names(TALK, 1, 1, 199, 18, 0, 0, 0, 0, 0, 0, 0, 0, 0);
        // What is said in the very hour of the tape is on it.
        names("thing a 4 is 2;teller p 9 begins 3 ends 9 tape 6;ask p 5 a;say p 5 a 2;ask p 6 a;say p 6 a 1;say p 6 a 2;",
                0, 1, 199, 9, 3, 0, 1, 0, 0, 1, 0, 0, 0);
    }

    private static int next(int last) {
        return (int) ((last * 1103515245L + 12345L) & 0x7fffffffL);
    }

    private static void draws() {
        SaidSo x = Check.told("thing a 4 is 2;teller p 9 begins 0 ends 9;say p 1 a 2;say p 2 a 1;");
        int last = 7;
        int good = 0;
        for (int i = 1; i <= 99; i++) {
            last = next(last);
            good += last / 65536 % 4 == 2 ? 1 : 0;
            Check.due("draws(0, 7, " + i + ")", x.draws(0, 7, i), good);
        }
        // What was put is said for sure, with one number each draw; the latest that was put, not of another thing.
        String put = "thing a 4 is 2;thing b 4 is 2;teller p 9 begins 0 ends 9;ask p 0 a 1;ask p 0 a 2;ask p 0 a;ask p 0 b 0;say p 1 a 2;";
        Check.due("law 100", Check.told(put + "law 100;").draws(0, 3, 50), 50);
        x = Check.told(put + "law 30;");
        last = 3;
        good = 0;
        for (int i = 1; i <= 99; i++) {
            last = next(last);
            int said = 2;
            if (last / 65536 % 100 >= 30) {
                last = next(last);
                said = last / 65536 % 4;
            }
            good += said == 2 ? 1 : 0;
            Check.due("draws(0, 3, " + i + ") by law 30", x.draws(0, 3, i), good);
        }
        Check.due("the first line of all", Check.told("thing a 4 is 2;teller p 9 begins 0 ends 9;ask p 0 a 2;say p 0 a 2;law 100;").draws(0, 3, 99), 99);
        x = Check.told(put.replace("say p 1 a 2;", "ask p 1 a 1;say p 1 a 2;") + "law 100;");
        Check.due("the latest put is wrong", x.draws(0, 3, 99), 0);
        x = Check.told(put.replace("say p 1 a 2;", "say p 1 a 1;ask p 1 a 1;") + "law 100;");
        Check.due("he had none right", x.draws(0, 3, 99), 99);
    }

    private static void drawLimits() {
        SaidSo x = Check.told("thing a 4 is 2;teller p 9 begins 0 ends 9;say p 1 a 2;");
        Check.due("draws(0, -1, 1)", x.draws(0, -1, 1), -1);
        Check.due("draws(0, 0, 0)", x.draws(0, 0, 0), -1);
        Check.due("draws(0, 0, 100)", x.draws(0, 0, 100), -1);
        Check.due("draws(1, 0, 1)", x.draws(1, 0, 1), -1);
        Check.due("draws(-1, 0, 1)", x.draws(-1, 0, 1), -1);
        Check.due("draws(0, 0, 1)", x.draws(0, 0, 1), next(0) / 65536 % 4 == 2 ? 1 : 0);
        Check.due("draws(0, 0, 99)", x.draws(0, 0, 99) > 0, true);
        int high = next(Integer.MAX_VALUE) / 65536 % 4 == 2 ? 1 : 0;
        Check.due("draws(0, the highest seed, 1)", x.draws(0, Integer.MAX_VALUE, 1), high);
        x.hear(0);
        Check.due("nothing heard: as good each time", x.draws(0, 5, 42), 42);
    }

    private static void verdicts() {
        SaidSo x = Check.told("teller p 10 begins 0 ends 9;teller q 20 begins 0 ends 9;teller r 30 begins 0 ends 9;teller s 40 begins 0 ends 9;"
                + "jury age >= 20;bar age = 30;");
        Check.due("jury(0, 0)", x.jury(0, 0), 0);
        Check.due("jury(1, 1)", x.jury(1, 1), 1);
        Check.due("jury(2, 2)", x.jury(2, 2), 1);
        Check.due("jury(4, 0)", x.jury(4, 0), -1);
        Check.due("jury(-1, 0)", x.jury(-1, 0), -1);
        Check.due("jury(0, 3)", x.jury(0, 3), -1);
        Check.due("jury(0, -1)", x.jury(0, -1), -1);
        Check.due("there(16)", x.there(16), -1);
        Check.due("there(-1)", x.there(-1), -1);
        Check.due("nobody there", x.found(0, 0), 10);
        Check.due("nobody there", x.found(0, 1), 0);
        Check.due("there(7)", x.there(7), 3);
        for (int by = 0; by < 3; by++) {
            Check.due("wronged by " + by, x.found(by, 0), 8);
            Check.due("freed by " + by, x.found(by, 1), 5);
        }
        Check.due("there(16) changes nothing", x.there(16), -1);
        Check.due("wronged", x.found(1, 0), 8);
        Check.due("there(0)", x.there(0), 0);
        Check.due("freed", x.found(1, 1), 0);
        Check.due("found(3, 0)", x.found(3, 0), -1);
        Check.due("found(-1, 0)", x.found(-1, 0), -1);
        Check.due("found(0, 2)", x.found(0, 2), -1);
        Check.due("found(0, -1)", x.found(0, -1), -1);
        Check.due("there(15)", x.there(15), 4);
        x.hear(3);
        Check.due("who was there stays", x.found(0, 1), 5);
    }
}
