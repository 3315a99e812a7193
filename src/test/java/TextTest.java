/** Promises 1 to 5 and 32: a new object, feed, tell, fault, named, count. */
final class TextTest {
    private static final String THING = "thing a 4 is 2;";
    private static final String TELLER = "teller p 9 begins 5 ends 8;";

    public static void main(String[] args) {
        newObject();
        feeding();
        telling();
        badTokens();
        tooMuch();
        toldAlready();
        notTold();
        tooEarly();
        firstFaultOnly();
        cutOff();
        formulas();
        knots();
        names();
        counts();
        Check.end();
    }

    private static void newObject() {
        SaidSo x = new SaidSo();
        long[] want = {0, 0, 0, 0, 0, 0, 199, 0, -1, -1};
        for (int what = 0; what < want.length; what++) {
            Check.due("new count(" + what + ")", x.count(what), want[what]);
        }
        Check.due("new count(-1)", x.count(-1), -1);
        Check.due("new fault(0)", x.fault(0), 0);
        Check.due("new fault(1)", x.fault(1), -1);
        Check.due("new fault(2)", x.fault(2), -1);
        Check.due("new fault(-1)", x.fault(-1), -1);
        Check.due("new together", x.together(), 0);
        Check.due("new tell(1)", x.tell(1), -2);
        Check.due("new tell(0)", x.tell(0), 0);
        Check.due("NONE", SaidSo.NONE, -1);
    }

    private static void feeding() {
        SaidSo x = new SaidSo();
        for (int i = 1; i <= 40; i++) {
            Check.due("feed " + i, x.feed(0x20202020, 0x20202020, 0x20202020, 0x20202020, 0x20202020), 20 * i);
        }
        Check.due("feed 41", x.feed(0x21212121, 0x20202020, 0x20202020, 0x20202020, 0x20202020), -1);
        Check.due("tell(801)", x.tell(801), -2);
        Check.due("tell(-1)", x.tell(-1), -2);
        Check.due("tell(800), blanks alone", x.tell(800), 0);
        Check.due("bytes are gone", x.tell(1), -2);
        // The highest byte comes first, and bytes above 127 are no tokens.
        Check.due("feed anew", x.feed(0x0a20ff20, 0, 0, 0, 0), 20);
        Check.due("tell(4)", x.tell(4), -1);
        Check.due("place", x.fault(1), 2);
    }

    private static void telling() {
        SaidSo x = new SaidSo();
        Check.due("lines", Check.tell(x, THING + TELLER + "ask p 5 a;say p 5 a 1;page p a 1;law 1;bar 0;jury 1;"), 8);
        Check.due("hear", x.hear(3), 0);
        Check.due("there", x.there(1), 1);
        Check.due("say", x.say(true, 0, 6, 0, 0), 2);
        Check.due("bad text", Check.tell(x, "thing a 4 is 2;!"), -1);
        Check.due("fault", x.fault(0), 1);
        Check.due("place", x.fault(1), 15);
        Check.due("bytes are gone with a fault", x.tell(1), -2);
        Check.due("fault stays with -2", x.fault(0), 1);
        Check.due("tellers stay", x.count(1), 1);
        Check.due("lines stay", x.count(2), 3);
        Check.due("pages stay", x.count(4), 1);
        Check.due("knots stay", x.count(5), 3);
        Check.due("heard stays", x.count(6), 3);
        Check.due("say() stays", x.count(7), 1);
        Check.due("who stays", x.found(0, 1), 0);
        x.hear(199);
        Check.due("who stays by both", x.found(2, 0), 0);
        x.truth(5);
        x.begin(3, 2);
        x.hear(3);
        Check.due("good text", Check.tell(x, THING + TELLER + "jury 0;"), 3);
        Check.due("fault", x.fault(0), 0);
        Check.due("place", x.fault(1), -1);
        Check.due("all heard", x.count(6), 199);
        Check.due("say() is gone", x.count(7), 0);
        Check.due("knots", x.count(5), 1);
        Check.due("nobody there", x.found(2, 1), 0);
        Check.due("odds stay", x.odds(0, 0, 0), 3);
        Check.due("an empty text", x.tell(0), 0);
        Check.due("no tellers", x.count(1), 0);
        // Only the first n bytes are the text; the others are gone as well.
        Check.feed(x, THING + "thing b 3 is 1;");
        Check.due("half", x.tell(15), 1);
        Check.due("the rest is gone", x.tell(1), -2);
    }

    private static void fault(String text, int fault, int place) {
        SaidSo x = new SaidSo();
        Check.due("tell '" + text + "'", Check.tell(x, text), -1);
        Check.due("fault of '" + text + "'", x.fault(0), fault);
        Check.due("place in '" + text + "'", x.fault(1), place);
    }

    private static void good(String text) {
        SaidSo x = new SaidSo();
        Check.tell(x, text);
        Check.due("fault of '" + text + "' at " + x.fault(1), x.fault(0), 0);
    }

    private static void badTokens() {
        fault(";", 1, 0);
        fault("x;", 1, 0);
        fault("1;", 1, 0);
        fault("off;", 1, 0);
        fault("thing", 1, 5);
        fault("thing a 2 is 0", 1, 14);
        fault("thing a 2 is 0 \n ", 1, 17);
        fault("thing a\t2 is 0;", 1, 7);
        fault("thing A 2 is 0;", 1, 6);
        fault("thing abcdefg 2 is 0;", 1, 6);
        fault("things a 2 is 0;", 1, 0);
        fault("thing is 2 is 0;", 1, 6);
        fault("thing 2 2 is 0;", 1, 6);
        fault("thing a 2 0;", 1, 10);
        fault("thing a 2 is;", 1, 12);
        fault("thing a 2 is 0 tape 1;", 1, 15);
        fault("thing a 2 is 0 0;", 1, 15);
        fault("thing a 2 is 0 1000;", 1, 15);
        fault("thing a 2 is 0 paper;", 1, 20);
        fault("thing a 2 is 0 paper 1 police;", 1, 29);
        fault("teller p 9 begins 5 tape 6;", 1, 20);
        fault("teller p 9 begins 5 ends 8 tape 5 tape 6;", 1, 34);
        fault("teller p 9 begins 5 ends 8 tape;", 1, 31);
        fault(THING + TELLER + "ask p a;", 1, 48);
        fault(THING + TELLER + "ask p 5;", 1, 49);
        fault(THING + TELLER + "ask p 5 a 1 1;", 1, 54);
        fault(THING + TELLER + "say p 5 a;", 1, 51);
        fault(THING + TELLER + "page p 5 a;", 1, 49);
        fault(THING + TELLER + "page p a;", 1, 50);
        fault(THING + TELLER + "ask off 5 a;", 1, 46);
        fault(THING + TELLER + "ask abcdefg 5 a;", 1, 46);
        good("\nthing\na\n2\nis\n0\n;\n");
        good("thing abcdef 2is0police1paper2;");
        good("thing a 2 is 00001;");
        good("");
    }

    private static void tooMuch() {
        fault("thing a 1 is 0;", 2, 8);
        fault("thing a 10 is 0;", 2, 8);
        fault("thing a 1000 is 0;", 2, 8);
        fault("thing a 99999999999999999999 is 0;", 2, 8);
        good("thing a 2 is 1;");
        good("thing a 9 is 8;");
        fault("thing a 9 is 9;", 2, 13);
        good("thing a 9 is 8 paper 199 police 0;");
        fault("thing a 9 is 8 paper 200;", 2, 21);
        fault("thing a 9 is 8 police 200;", 2, 22);
        fault("teller p 0 begins 0 ends 1;", 2, 9);
        fault("teller p 100 begins 0 ends 1;", 2, 9);
        good("teller p 1 begins 0 ends 199 tape 199;");
        good("teller p 99 begins 199 ends 199 tape 199;");
        fault("teller p 1 begins 200 ends 200;", 2, 18);
        fault("teller p 1 begins 5 ends 200;", 2, 25);
        fault("teller p 1 begins 5 ends 4;", 2, 25);
        fault("teller p 1 begins 5 ends 8 tape 4;", 2, 32);
        fault("teller p 1 begins 5 ends 8 tape 9;", 2, 32);
        good("teller p 1 begins 5 ends 8 tape 5;");
        fault(THING + TELLER + "ask p 4 a;", 2, 48);
        fault(THING + TELLER + "say p 9 a 0;", 2, 48);
        fault(THING + TELLER + "ask p 5 a 4;", 2, 52);
        fault(THING + TELLER + "say p 5 a 4;", 2, 52);
        fault(THING + TELLER + "page p a 4;", 2, 51);
        good(THING + TELLER + "ask p 5 a 3;say p 8 a 3;page p a 3;");
        StringBuilder text = new StringBuilder();
        for (char c = 'a'; c < 'i'; c++) {
            text.append("thing ").append(c).append(" 2 is 0;");
        }
        good(text.toString());
        fault(text + "thing", 2, text.length());
        text.setLength(0);
        for (char c = 'a'; c < 'f'; c++) {
            text.append("teller ").append(c).append(" 2 begins 0 ends 1;");
        }
        good(text.toString());
        fault(text + " teller a", 2, text.length() + 1);
        manyLines("say p 5 a 1;", 40);
        manyLines("ask p 5 a;", 40);
        manyLines("page p a 1;", 20);
    }

    private static void manyLines(String line, int most) {
        StringBuilder text = new StringBuilder(THING + TELLER);
        for (int i = 0; i < most; i++) {
            text.append(line);
        }
        good(text.toString());
        fault(text + line, 2, text.length());
        // Page lines and talk lines are counted apart, ask and say together.
        if (most == 40) {
            good(text + "page p a 1;");
            fault(text + "ask p 1 x;", 2, text.length());
            fault(text + "say p 1 x;", 2, text.length());
        } else {
            good(text + "say p 5 a 1;");
        }
    }

    private static void toldAlready() {
        fault(THING + "thing a 2 is 0;", 3, 21);
        fault(TELLER + "teller p 2 begins 0 ends 1;", 3, 34);
        good(THING + "teller a 2 begins 0 ends 1;");
        good("teller a 2 begins 0 ends 1;" + THING);
        fault("thing a 2 is 0 paper 1 paper 2;", 3, 23);
        fault("thing a 2 is 0 police 1 paper 1 police 2;", 3, 32);
        fault("thing a 2 is 0 police 1 police", 3, 24);
        fault("law 1;law 1;", 3, 6);
        fault("bar 1;law 1;bar 1;", 3, 12);
        fault("jury 1;jury", 3, 7);
        good("law 1;bar 1;jury 1;");
    }

    private static void notTold() {
        fault("ask p 5 a;", 4, 4);
        fault(THING + "say a 5 a 1;", 4, 19);
        fault(TELLER + "ask p 5 p;", 4, 35);
        fault(TELLER + "ask p 5 a;" + THING, 4, 35);
        fault("page p a 0;", 4, 5);
        fault(TELLER + "page p a 0;", 4, 34);
        fault(THING + TELLER + "ask pp 5 a;", 4, 46);
    }

    private static void tooEarly() {
        fault(THING + TELLER + "ask p 7 a;say p 6 a 1;", 5, 58);
        fault(THING + TELLER + "ask p 6 a;say p 5 a 1;", 5, 58);
        fault(THING + TELLER + "ask p 7 a;say p 4 a 1;", 2, 58);
        good(THING + TELLER + "ask p 7 a;say p 7 a 1;");
        good(THING + TELLER + "teller q 9 begins 5 ends 8;ask p 7 a;ask q 5 a;say p 7 a 1;say q 6 a 1;");
        fault(THING + TELLER + "teller q 9 begins 5 ends 8;ask p 7 a;ask q 5 a;say p 6 a 1;", 5, 95);
    }

    private static void firstFaultOnly() {
        fault("thing a 1 is 5; !", 2, 8);
        fault("ask p 999999 a; thing a", 4, 4);
        fault("law 1000 1000;", 2, 4);
        fault("law 1 1000;", 1, 6);
    }

    /** What is fed behind the text doesn't count, though it would go on with its last token. */
    private static void cutOff(String all, int n, int place) {
        SaidSo x = new SaidSo();
        Check.feed(x, all);
        Check.due("tell(" + n + ") of '" + all + "'", x.tell(n), -1);
        Check.due("fault of it", x.fault(0), 1);
        Check.due("place of it", x.fault(1), place);
    }

    private static void cutOff() {
        cutOff("thing ab 2 is 0;", 7, 7);
        cutOff("thing abcdefg 2 is 0;", 12, 12);
        cutOff("thing a 9 is 12;", 14, 14);
        cutOff("law 1<=2;", 6, 6);
        cutOff("law 1<>2;", 6, 6);
        cutOff("law 1>=2;", 6, 6);
        cutOff("law 1;  !;", 9, 8);
        fault(";".repeat(800), 1, 0);
        fault("law " + "(".repeat(796), 2, 12);
        fault("law 1" + ";".repeat(795), 1, 6);
    }

    private static void formulas() {
        fault("law;", 1, 3);
        fault("law", 1, 3);
        fault("law x;", 1, 4);
        fault("law thing;", 1, 4);
        fault("law -1;", 1, 4);
        fault("law 1 +;", 1, 7);
        fault("law 1 not 2;", 1, 6);
        fault("law 1 + not 2;", 1, 8);
        fault("law 1 < not 2;", 1, 8);
        fault("law 1 < 2 < 3;", 1, 10);
        fault("law 1 = 2 <> 3;", 1, 10);
        fault("law 1 < (2) < 3;", 1, 12);
        fault("law 1 < 2 + 3 > 4;", 1, 14);
        fault("law 1 < = 2;", 1, 8);
        fault("law 1 => 2;", 1, 7);
        fault("law 1 == 2;", 1, 7);
        fault("law 1 >< 2;", 1, 7);
        fault("law ();", 1, 5);
        fault("law (1;", 1, 6);
        fault("law 1);", 1, 5);
        fault("law (1)(2);", 1, 7);
        fault("law (1", 1, 6);
        fault("law not;", 1, 7);
        fault("law age age;", 1, 8);
        fault("law 1 and or 2;", 1, 10);
        fault("law 1000;", 2, 4);
        fault("law ((((((((( ", 2, 12);
        good("law ((((((((1))))))));");
        good("law ((((((((1)))))))) + ((((((((1))))))));");
        good("law (1 < 2) < (3 < 4);");
        good("law not (1 < 2) and not not 3 < 4 or not(not 1);");
        good("law 1<=2;bar 1<>2;jury 1>=2;");
        good("law age+hours-off*asks/led=right;bar wrong<new or put>lines;jury 999;");
    }

    private static void knots() {
        StringBuilder text = new StringBuilder("law 1");
        for (int i = 0; i < 31; i++) {
            text.append("+1");
        }
        SaidSo x = new SaidSo();
        Check.due("63 knots", Check.tell(x, text + ";bar (((1)));"), 2);
        Check.due("knots", x.count(5), 64);
        Check.due("all held at once", Check.tell(x, "law " + "not ".repeat(63) + "((((((((1)))))))) ;"), 1);
        Check.due("knots", x.count(5), 64);
        fault(text + ";bar 1+;", 2, text.length() + 6);
        fault(text + ";bar not 1;", 2, text.length() + 9);
        fault(text + ";bar 1 1;", 1, text.length() + 7);
        fault(text + ";bar 1;jury 1;", 2, text.length() + 12);
        fault(text + ";bar 1 and 1;", 2, text.length() + 7);
    }

    private static void names() {
        SaidSo x = Check.told("thing abcdef 2 is 0;thing z 2 is 0;teller z 9 begins 0 ends 1;teller zz 9 begins 0 ends 1;");
        Check.due("named abcdef", x.named(0, Check.letters("abcdef")), 0);
        Check.due("named z", x.named(0, Check.letters("z")), 1);
        Check.due("named zz", x.named(0, Check.letters("zz")), -1);
        Check.due("named teller z", x.named(1, Check.letters("z")), 0);
        Check.due("named teller zz", x.named(1, Check.letters("zz")), 1);
        Check.due("named teller abcdef", x.named(1, Check.letters("abcdef")), -1);
        Check.due("named nothing", x.named(0, 0), -1);
        Check.due("named low letters", x.named(0, 26), -1);
        Check.due("named below 0", x.named(0, -1), -1);
        Check.due("named high bits", x.named(0, Check.letters("z") | 1 << 30), -1);
        Check.due("named what 2", x.named(2, Check.letters("z")), -1);
        Check.due("named what -1", x.named(-1, Check.letters("z")), -1);
    }

    private static void counts() {
        SaidSo x = Check.told(THING + "thing b 2 is 0;" + TELLER + "ask p 5 a;say p 6 a 1;say p 8 b 1;page p a 1;page p b 1;"
                + "law not (1 + 2);");
        x.hear(6);
        x.say(true, 0, 8, 0, 0);
        long[] want = {2, 1, 4, 2, 2, 4, 6, 1, -1};
        for (int what = 0; what < want.length; what++) {
            Check.due("count(" + what + ")", x.count(what), want[what]);
        }
    }
}
