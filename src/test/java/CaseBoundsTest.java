import java.util.List;

/** Boundary cases of 'Terms': THINGS, TELLERS, TALK LINES, PAGE LINES, FAULTS 2 to 5 and HEARD. */
final class CaseBoundsTest {
    private static final String THING = "thing a 4 is 2;";
    private static final String TELLER = "teller p 9 begins 5 ends 8;";
    private static final String HEAD = THING + TELLER;

    public static void main(String[] args) {
        manyThings();
        ways();
        is();
        since();
        manyTellers();
        ownNames();
        ages();
        talks();
        tapes();
        manyTalkLines();
        putValues();
        saidValues();
        hours();
        manyPages();
        pageValues();
        firstFault();
        leastFault();
        numbersBeyond();
        tooManyLines();
        openBrackets();
        knots();
        toldAlready();
        notTold();
        fallingHours();
        heard();
        Check.end();
    }

    private static void manyThings() {
        Check.sentence("THINGS, at most 8, numbered as they come");
        for (int many = 0; many <= 8; many++) {
            SaidSo x = Check.told(Check.each("thing ", 'a', many, " 9 is 1;"));
            Check.due("things", x.count(0), many);
            for (int i = 0; i < 9; i++) {
                Check.due("number of thing " + i, x.named(0, Check.letters("" + (char) ('a' + i))), i < many ? i : -1);
            }
        }
        Check.fault(2, Check.each("thing ", 'a', 8, " 9 is 1;") + "^thing i 9 is 1;");
        Check.good(9, Check.each("thing ", 'a', 8, " 9 is 1;") + TELLER);
        // They come in the order of the text, not of the alphabet, with other LINES in between.
        SaidSo x = Check.told("thing b 3 is 1;" + TELLER + "thing a 4 is 2;");
        Check.due("ways of the first", x.look(0, 0), 3);
        Check.due("ways of the second", x.look(1, 0), 4);
        Check.due("number of b", x.named(0, Check.letters("b")), 0);
    }

    private static void ways() {
        Check.sentence("so many WAYS (2 .. 9)");
        Check.fault(2, "thing a ^0 is 0;");
        Check.fault(2, "thing a ^1 is 0;");
        for (int ways = 2; ways <= 9; ways++) {
            Check.due("ways", Check.told("thing a " + ways + " is 0;").look(0, 0), ways);
        }
        Check.fault(2, "thing a ^10 is 0;");
        Check.fault(2, "thing a ^999 is 0;");
    }

    private static void is() {
        Check.sentence("of which it IS one (0 .. WAYS less 1)");
        for (int ways = 2; ways <= 9; ways++) {
            for (int is = 0; is < ways; is++) {
                Check.due("it is", Check.told("thing a " + ways + " is " + is + ";").look(0, 1), is);
            }
            Check.fault(2, "thing a " + ways + " is ^" + ways + ";");
        }
        Check.fault(1, "thing a 2 is ^-1;");
    }

    private static void since() {
        Check.sentence("in the PAPER, known to the POLICE, since an HOUR (0 .. 199; each once at most; without: never)");
        String[] words = {"paper", "police"};
        for (int i = 0; i < 2; i++) {
            String since = "thing a 2 is 0 " + words[i] + " ";
            Check.due("since 0", Check.told(since + "0;").look(0, 2 + i), 0);
            Check.due("the other one", Check.told(since + "0;").look(0, 3 - i), -1);
            Check.due("since 1", Check.told(since + "1;").look(0, 2 + i), 1);
            Check.due("since 198", Check.told(since + "198;").look(0, 2 + i), 198);
            Check.due("since 199", Check.told(since + "199;").look(0, 2 + i), 199);
            Check.fault(2, since + "^200;");
            Check.fault(3, since + "0 ^" + words[i] + " 0;");
            Check.fault(3, since + "3 " + words[1 - i] + " 4 ^" + words[i] + " 3;");
            Check.fault(3, since + "3 " + words[1 - i] + " 4 ^" + words[1 - i] + " 3;");
            // The first thing's doesn't count for the second.
            Check.good(2, since + "3;thing b 2 is 0 " + words[i] + " 4;");
        }
        Check.due("never in the paper", Check.told("thing a 2 is 0;").look(0, 2), -1);
        Check.due("never with the police", Check.told("thing a 2 is 0;").look(0, 3), -1);
        // Never, not even in the last hour; and not from what a text ahead of it told.
        SaidSo x = Check.told("thing a 2 is 0 paper 0 police 0;");
        Check.tell(x, "thing a 2 is 0;teller p 9 begins 0 ends 199;say p 199 a 0;");
        Check.due("paper", x.look(0, 2), -1);
        Check.due("police", x.look(0, 3), -1);
        Check.due("right, first, new, clean", x.word(0), 1 + 2 + 32 + 64);
    }

    private static void manyTellers() {
        Check.sentence("TELLERS, at most 5, numbered as they come");
        for (int many = 0; many <= 5; many++) {
            SaidSo x = Check.told(Check.each("teller ", 'p', many, " 9 begins 5 ends 8;"));
            Check.due("tellers", x.count(1), many);
            for (int i = 0; i < 6; i++) {
                Check.due("number of teller " + i, x.named(1, Check.letters("" + (char) ('p' + i))), i < many ? i : -1);
            }
        }
        Check.fault(2, Check.each("teller ", 'p', 5, " 9 begins 5 ends 8;") + "^teller z 9 begins 5 ends 8;");
        Check.good(6, Check.each("teller ", 'p', 5, " 9 begins 5 ends 8;") + THING);
        SaidSo x = Check.told("teller q 3 begins 1 ends 2;" + THING + "teller p 4 begins 1 ends 2;");
        Check.due("age of the first", x.teller(0, 0), 3);
        Check.due("age of the second", x.teller(1, 0), 4);
    }

    private static void ownNames() {
        Check.sentence("(with names of their own)");
        SaidSo x = Check.told("thing b 2 is 0;thing a 3 is 0;teller a 9 begins 5 ends 8;say a 5 a 2;page a a 1;");
        Check.due("thing a", x.named(0, Check.letters("a")), 1);
        Check.due("teller a", x.named(1, Check.letters("a")), 0);
        Check.due("teller b", x.named(1, Check.letters("b")), -1);
        Check.due("he says of the second thing", x.line(0, 3), 1);
        Check.good(2, "teller a 9 begins 5 ends 8;thing a 2 is 0;");
    }

    private static void ages() {
        Check.sentence("AGE 1 .. 99");
        Check.fault(2, "teller p ^0 begins 5 ends 8;");
        Check.due("age 1", Check.told("teller p 1 begins 5 ends 8;").teller(0, 0), 1);
        Check.due("age 2", Check.told("teller p 2 begins 5 ends 8;").teller(0, 0), 2);
        Check.due("age 98", Check.told("teller p 98 begins 5 ends 8;").teller(0, 0), 98);
        Check.due("age 99", Check.told("teller p 99 begins 5 ends 8;").teller(0, 0), 99);
        Check.fault(2, "teller p ^100 begins 5 ends 8;");
        Check.fault(2, "teller p ^999 begins 5 ends 8;");
    }

    private static void talk(int begins, int ends) {
        SaidSo x = Check.told("teller p 9 begins " + begins + " ends " + ends + ";");
        Check.due("begins", x.teller(0, 1), begins);
        Check.due("ends", x.teller(0, 2), ends);
    }

    private static void talks() {
        Check.sentence("his talk from HOUR to HOUR (0 .. 199, the second not below the first)");
        talk(0, 0);
        talk(0, 1);
        talk(0, 199);
        talk(198, 199);
        talk(199, 199);
        talk(7, 7);
        Check.fault(2, "teller p 9 begins ^200 ends 200;");
        Check.fault(2, "teller p 9 begins 0 ends ^200;");
        Check.fault(2, "teller p 9 begins 199 ends ^200;");
        Check.fault(2, "teller p 9 begins 199 ends ^198;");
        Check.fault(2, "teller p 9 begins 7 ends ^6;");
        Check.fault(2, "teller p 9 begins 1 ends ^0;");
    }

    private static int tape(String text) {
        return Check.told("teller p 9 begins 5 ends 8" + text + ";").teller(0, 3);
    }

    private static void tapes() {
        Check.sentence("on TAPE from an HOUR of it on (without: never)");
        Check.due("never", tape(""), -1);
        Check.fault(2, "teller p 9 begins 5 ends 8 tape ^0;");
        Check.fault(2, "teller p 9 begins 5 ends 8 tape ^4;");
        for (int hour = 5; hour <= 8; hour++) {
            Check.due("tape", tape(" tape " + hour), hour);
        }
        Check.fault(2, "teller p 9 begins 5 ends 8 tape ^9;");
        Check.fault(2, "teller p 9 begins 5 ends 8 tape ^199;");
        Check.due("the least", Check.told("teller p 9 begins 0 ends 0 tape 0;").teller(0, 3), 0);
        Check.due("the most", Check.told("teller p 9 begins 199 ends 199 tape 199;").teller(0, 3), 199);
        SaidSo x = Check.told("teller p 9 begins 5 ends 8 tape 6;");
        Check.tell(x, TELLER);
        Check.due("never, though the text ahead of it told one", x.teller(0, 3), -1);
    }

    private static void manyTalkLines() {
        Check.sentence("TALK LINES, at most 40 in the CASE, numbered as they come");
        Check.due("none", Check.told(HEAD).count(2), 0);
        Check.due("one", Check.told(HEAD + "ask p 5 a;").count(2), 1);
        Check.due("39", Check.told(HEAD + "ask p 5 a;".repeat(39)).count(2), 39);
        Check.due("40 asks", Check.told(HEAD + "ask p 5 a;".repeat(40)).count(2), 40);
        Check.due("40 words", Check.told(HEAD + "say p 5 a 1;".repeat(40)).count(2), 40);
        Check.due("40 of both", Check.told(HEAD + "ask p 5 a;say p 5 a 1;".repeat(20)).count(2), 40);
        Check.fault(2, HEAD + "ask p 5 a;".repeat(40) + "^ask p 5 a;");
        Check.fault(2, HEAD + "say p 5 a 1;".repeat(40) + "^say p 5 a 1;");
        Check.fault(2, HEAD + "ask p 5 a;say p 5 a 1;".repeat(20) + "^say p 5 a 1;");
        Check.fault(2, HEAD + "teller q 9 begins 5 ends 8;" + "ask p 5 a;ask q 5 a;".repeat(20) + "^ask q 5 a;");
        Check.good(43, HEAD + "ask p 5 a;".repeat(40) + "page p a 1;");
        SaidSo x = Check.told(HEAD + "teller q 9 begins 1 ends 8;ask p 5 a;page p a 0;say q 2 a 1;thing b 2 is 1;say p 6 b 0;");
        long[][] want = {{0, 0, 5, 0, -1}, {1, 1, 2, 0, 1}, {1, 0, 6, 1, 0}};
        for (int line = 0; line < 3; line++) {
            for (int what = 0; what < 5; what++) {
                Check.due("line(" + line + ", " + what + ")", x.line(line, what), want[line][what]);
            }
        }
    }

    private static void putValues() {
        Check.sentence("ask: a TELLER is asked at an HOUR of a THING (a VALUE is PUT: 0 .. WAYS less 1)");
        for (int ways = 2; ways <= 9; ways++) {
            String head = "thing a " + ways + " is 0;" + TELLER + "ask p 5 a";
            Check.due("none", Check.told(head + ";").line(0, 4), -1);
            Check.due("the least", Check.told(head + " 0;").line(0, 4), 0);
            Check.due("the most", Check.told(head + " " + (ways - 1) + ";").line(0, 4), ways - 1);
            Check.fault(2, head + " ^" + ways + ";");
        }
        // The ways of its own thing count.
        Check.fault(2, "thing b 9 is 0;" + HEAD + "ask p 5 a ^4;");
        Check.good(4, "thing b 9 is 0;" + HEAD + "ask p 5 b 8;");
    }

    private static void saidValues() {
        Check.sentence("say: he says at an HOUR that a THING is a VALUE: a WORD.");
        for (int ways = 2; ways <= 9; ways++) {
            String head = "thing a " + ways + " is 0;" + TELLER + "say p 5 a";
            Check.fault(1, head + "^;");
            Check.due("the least", Check.told(head + " 0;").line(0, 4), 0);
            Check.due("the most", Check.told(head + " " + (ways - 1) + ";").line(0, 4), ways - 1);
            Check.fault(2, head + " ^" + ways + ";");
        }
        Check.fault(2, "thing b 9 is 0;" + HEAD + "say p 5 a ^4;");
    }

    private static void hours() {
        Check.sentence("HOURS are of his talk and never fall along his LINES.");
        for (String kind : new String[] {"ask", "say"}) {
            Check.fault(2, HEAD + kind + " p ^0 a 1;");
            Check.fault(2, HEAD + kind + " p ^4 a 1;");
            Check.good(3, HEAD + kind + " p 5 a 1;");
            Check.good(3, HEAD + kind + " p 8 a 1;");
            Check.fault(2, HEAD + kind + " p ^9 a 1;");
            Check.fault(2, HEAD + kind + " p ^999 a 1;");
            Check.good(3, THING + "teller p 9 begins 7 ends 7;" + kind + " p 7 a 1;");
            Check.good(3, THING + "teller p 9 begins 0 ends 199;" + kind + " p 0 a 1;");
            Check.good(3, THING + "teller p 9 begins 0 ends 199;" + kind + " p 199 a 1;");
            Check.fault(2, THING + "teller p 9 begins 0 ends 199;" + kind + " p ^200 a 1;");
            // On tape or not is all one.
            Check.good(3, THING + "teller p 9 begins 5 ends 8 tape 7;" + kind + " p 6 a 1;");
        }
        Check.good(5, HEAD + "ask p 6 a;say p 6 a 1;ask p 7 a;");
    }

    private static void manyPages() {
        Check.sentence("PAGE LINES, at most 20, numbered as they come");
        Check.due("none", Check.told(HEAD).count(4), 0);
        Check.due("one", Check.told(HEAD + "page p a 1;").count(4), 1);
        Check.due("19", Check.told(HEAD + "page p a 1;".repeat(19)).count(4), 19);
        Check.due("20", Check.told(HEAD + "page p a 1;".repeat(20)).count(4), 20);
        Check.fault(2, HEAD + "page p a 1;".repeat(20) + "^page p a 1;");
        Check.fault(2, HEAD + "teller q 9 begins 5 ends 8;" + "page p a 1;page q a 1;".repeat(10) + "^page q a 1;");
        Check.good(23, HEAD + "page p a 1;".repeat(20) + "ask p 5 a;");
        SaidSo x = Check.told(HEAD + "page p a 3;say p 5 a 1;page p a 1;");
        Check.due("the first page line", x.page(0), 2);
        Check.due("the second page line", x.page(1), 0);
    }

    private static void pageValues() {
        Check.sentence("what the page says that a TELLER said: a THING and VALUE.");
        for (int ways = 2; ways <= 9; ways++) {
            String head = "thing a " + ways + " is 0;" + TELLER + "page p a";
            Check.fault(1, head + "^;");
            Check.good(3, head + " 0;");
            Check.good(3, head + " " + (ways - 1) + ";");
            Check.fault(2, head + " ^" + ways + ";");
        }
        Check.fault(2, "thing b 9 is 0;" + HEAD + "page p a ^4;");
    }

    /** A text with each FAULT, ahead of one with each other: the first one counts. */
    private static void firstFault() {
        Check.sentence("FAULTS, the first along the text (of one place the least), with its place");
        String head = HEAD + "ask p 6 a;";
        List<String> wrong = List.of("^!;", "thing z ^1 is 0;", "thing ^a 2 is 0;", "ask ^zz 5 a;", "say p ^5 a 1;");
        for (int i = 0; i < 5; i++) {
            for (int j = 0; j < 5; j++) {
                Check.fault(i + 1, head + wrong.get(i) + wrong.get(j).replace("^", ""));
            }
            Check.fault(i + 1, head + "page p a 1;\n " + wrong.get(i));
        }
        Check.fault(2, "thing a ^1 is 9 paper 200;");
        Check.fault(1, "thing a 2 ^paper 200;");
        Check.fault(4, HEAD + "ask ^q 99 z;");
        Check.fault(4, HEAD + "ask p 6 ^z 99;");
        Check.fault(3, HEAD + "thing ^a 99 is 99;");
    }

    private static void leastFault() {
        Check.sentence("(of one place the least)");
        // 1 and 2: a number that is too much where none can stand, or one too many where it can't.
        Check.fault(1, "law 1 ^1000;");
        Check.fault(1, "^1000");
        Check.fault(1, HEAD + "page p ^1000;");
        Check.fault(1, Check.each("thing ", 'a', 8, " 2 is 0;") + "law 1 ^thing;");
        Check.fault(1, Check.each("teller ", 'p', 5, " 2 begins 0 ends 1;") + "law 1 ^teller;");
        Check.fault(1, HEAD + "ask p 5 a;".repeat(40) + "law 1 ^ask;");
        Check.fault(1, HEAD + "page p a 1;".repeat(20) + "law ^page;");
        Check.fault(1, "law ((((((((1^(1;");
        Check.fault(1, "law not 1" + "+1".repeat(31) + " ^1;");
        Check.fault(1, "law not 1" + "+1".repeat(31) + " ^not 1;");
        Check.fault(1, "law 1" + "+1".repeat(31) + "+^+1;");
        // 1 and 3: told already, where it can't stand.
        Check.fault(1, "law 1 ^law 1;");
        Check.fault(1, "thing a 2 is 0 paper ^paper 1;");
        Check.fault(1, "thing a 2 is 0 paper 1 police ^paper 1;");
        // 1 and 4: a name that isn't told, where none can stand.
        Check.fault(1, HEAD + "ask p ^q;");
        // 2 and 5: an hour that falls, out of the talk.
        Check.fault(2, HEAD + "ask p 7 a;say p ^4 a 1;");
        Check.fault(2, HEAD + "ask p 5 a;say p ^4 a 1;");
        Check.fault(5, HEAD + "ask p 6 a;say p ^5 a 1;");
    }

    private static void numbersBeyond() {
        Check.sentence("2 too much (at it): a number beyond what is said");
        Check.fault(2, "thing a  ^1  is 0;");
        Check.fault(2, "thing a ^1is0;");
        Check.fault(2, "thing a 2 is ^2;");
        Check.fault(2, "thing a 2 is 0 paper ^200;");
        Check.fault(2, "thing a 2 is 0 police ^200;");
        Check.fault(2, "teller p ^0 begins 0 ends 0;");
        Check.fault(2, "teller p 1 begins ^200 ends 0;");
        Check.fault(2, "teller p 1 begins 1 ends ^0;");
        Check.fault(2, "teller p 1 begins 1 ends 1 tape ^2;");
        Check.fault(2, HEAD + "ask p ^9 a;");
        Check.fault(2, HEAD + "ask p 5 a ^4;");
        Check.fault(2, HEAD + "say p 5 a ^4;");
        Check.fault(2, HEAD + "page p a ^4;");
        Check.fault(2, "law ^1000;");
    }

    private static void tooManyLines() {
        Check.sentence("a ninth thing, a sixth teller, a 41st ask or say, a 21st page (at the word of the LINE)");
        // At the word, whatever comes behind it.
        for (String behind : new String[] {"", ";", " a", " !", " a 2 is 0;", " is", "99"}) {
            Check.fault(2, Check.each("thing ", 'a', 8, " 2 is 0;") + " ^thing" + behind);
            Check.fault(2, Check.each("teller ", 'p', 5, " 2 begins 0 ends 1;") + "\n^teller" + behind);
            Check.fault(2, HEAD + "ask p 5 a;".repeat(40) + "^ask" + behind);
            Check.fault(2, HEAD + "ask p 5 a;".repeat(40) + "^say" + behind);
            Check.fault(2, HEAD + "say p 5 a 1;".repeat(40) + "^ask" + behind);
            Check.fault(2, HEAD + "page p a 1;".repeat(20) + "^page" + behind);
        }
        // All of a text ahead of it are gone.
        SaidSo x = Check.told(Check.each("thing ", 'a', 8, " 2 is 0;"));
        Check.due("eight others", Check.tell(x, Check.each("thing ", 'i', 8, " 2 is 0;")), 8);
        x = Check.told(HEAD + "ask p 5 a;".repeat(40));
        Check.due("forty others", Check.tell(x, HEAD + "ask p 5 a;".repeat(40)), 42);
    }

    private static void openBrackets() {
        Check.sentence("a ninth '(' open");
        for (int open = 0; open <= 8; open++) {
            Check.good(1, "law " + "(".repeat(open) + "1" + ")".repeat(open) + ";");
        }
        Check.fault(2, "law " + "(".repeat(8) + "^(1" + ")".repeat(9) + ";");
        Check.fault(2, "law " + "( ".repeat(8) + "^(");
        Check.fault(2, "law " + "(".repeat(8) + "1+^(1");
        // Those that are closed aren't open any more.
        String eight = "((((((((1))))))))";
        Check.good(3, "law " + eight + "+" + eight + ";bar " + eight + ";jury " + eight + "*" + eight + ";");
        Check.good(1, "law ((((((((1)+(2)))))))) ;");
        Check.fault(2, "law ((((((((1)+(^(2");
        Check.good(1, "law (1)" + "+(1)".repeat(20) + ";");
        // A text that ends with some open leaves none, however many do so.
        SaidSo x = new SaidSo();
        for (int i = 0; i < 20; i++) {
            Check.due("eight open", Check.tell(x, "law not not not not (((((((("), -1);
            Check.due("the length", x.fault(1), 28);
        }
        Check.due("eight more", Check.tell(x, "law " + eight + ";"), 1);
    }

    private static void knots() {
        Check.sentence("a 65th KNOT of the whole text (N, NAMES, signs, not, and, or in E: one each)");
        String[] texts = {"", "law 1;", "law age;", "law not 1;", "law 1+1;", "law 1-1;", "law 1*1;", "law 1/1;", "law 1<1;", "law 1<=1;", "law 1=1;",
            "law 1<>1;", "law 1>=1;", "law 1>1;", "law 1 and 1;", "law 1 or 1;", "law (1);", "law ((1)+(1));", "law 1;bar 1;jury 1;"};
        int[] want = {0, 1, 1, 2, 3, 3, 3, 3, 3, 3, 3, 3, 3, 3, 3, 3, 1, 3, 3};
        for (int i = 0; i < texts.length; i++) {
            Check.due("knots of '" + texts[i] + "'", Check.told(texts[i]).count(5), want[i]);
        }
        // Numbers and names outside of an E are none.
        Check.due("knots", Check.told(HEAD + "ask p 5 a 1;page p a 1;").count(5), 0);
        String full = "law not 1" + "+1".repeat(31);
        Check.due("64 knots", Check.told(full + ";").count(5), 64);
        Check.due("63 knots", Check.told("law 1" + "+1".repeat(31) + ";").count(5), 63);
        for (String sign : List.of("+", "-", "*", "/", "<", "<=", "=", "<>", ">=", ">", "and", "or")) {
            Check.fault(2, full + " ^" + sign + " 1;");
            Check.fault(2, full + " ^" + sign);
        }
        String open = "law 1" + "+1".repeat(31) + " and ";
        for (String name : Model.NAMES) {
            Check.fault(2, open + "^" + name + ";");
        }
        Check.fault(2, open + "^1;");
        Check.fault(2, open + "^not 1;");
        Check.fault(2, open + "((^1));");
        // All that can wait for what comes behind it: 64 knots and eight brackets.
        Check.fault(2, "law " + "not ".repeat(64) + "((((((((^1");
        Check.fault(2, "law " + "not ".repeat(64) + "((((((((^(");
        Check.fault(2, "law " + "not (".repeat(8) + "not ".repeat(56) + "^1");
        Check.good(1, "law " + "not (".repeat(8) + "not ".repeat(55) + "1" + ")".repeat(8) + ";");
        Check.good(1, full.replace("1+1", "(((1)))+1") + ";");
        // Of the whole text, not of an E alone.
        Check.good(3, "law 1" + "+1".repeat(15) + ";bar 1" + "+1".repeat(15) + ";jury not 1;");
        Check.fault(2, "law 1" + "+1".repeat(15) + ";bar 1" + "+1".repeat(15) + ";jury not not ^1;");
        Check.fault(2, full + ";bar ^1;");
        Check.fault(2, full + ";jury ^not 1;");
        SaidSo x = Check.told(full + ";");
        Check.due("a text more", Check.tell(x, full + ";"), 1);
        Check.due("its knots", x.count(5), 64);
    }

    private static void toldAlready() {
        Check.sentence("3 told already: a name of its kind (at W), paper, police, law, bar, jury (at the word).");
        Check.fault(3, "thing a 2 is 0;thing ^a 2 is 0;");
        Check.fault(3, "thing a 2 is 0;thing b 2 is 0;thing ^a");
        Check.good(2, "thing a 2 is 0;thing ab 2 is 0;");
        Check.fault(3, Check.each("thing ", 'a', 7, " 2 is 0;") + "thing ^g 2 is 0;");
        Check.fault(3, TELLER + "teller ^p 9 begins 5 ends 8;");
        Check.fault(3, TELLER + "teller q 9 begins 5 ends 8;teller ^p !");
        Check.fault(3, "thing abcdef 2 is 0;thing ^abcdef 2 is 0;");
        Check.good(2, "thing abcdef 2 is 0;thing abcdeg 2 is 0;");
        Check.fault(3, "thing a 2 is 0 paper 5 ^paper 5;");
        Check.fault(3, "thing a 2 is 0 police 5 ^police !");
        for (String kind : new String[] {"law", "bar", "jury"}) {
            Check.fault(3, kind + " 1;^" + kind + " 1;");
            Check.fault(3, kind + " 1; ^" + kind);
            Check.fault(3, kind + " 1;" + HEAD + "^" + kind + " !");
        }
        Check.good(3, "law 1;bar 1;jury 1;");
        Check.good(3, "jury 1;bar 1;law 1;");
        // Told in a text ahead is not told in this one; told in one with a FAULT neither.
        SaidSo x = Check.told(HEAD + "law 1;bar 1;jury 1;");
        Check.due("all of it again", Check.tell(x, HEAD + "law 1;bar 1;jury 1;"), 5);
        Check.due("all of it with a fault", Check.tell(x, HEAD + "law 1;bar 1;jury 1;!"), -1);
        Check.due("all of it again", Check.tell(x, HEAD + "law 1;bar 1;jury 1;"), 5);
    }

    private static void notTold() {
        Check.sentence("4 a THING or TELLER that isn't told ahead (at W).");
        for (String kind : new String[] {"ask", "say"}) {
            Check.fault(4, kind + " ^p 5 a 1;");
            Check.fault(4, THING + kind + " ^p 5 a 1;");
            Check.fault(4, TELLER + kind + " p 5 ^a 1;");
            Check.fault(4, HEAD + kind + " ^a 5 a 1;");
            Check.fault(4, HEAD + kind + " p 5 ^p 1;");
            Check.fault(4, HEAD + kind + " ^pp 5 a 1;");
            Check.fault(4, HEAD + kind + " p 5 ^aa 1;");
            Check.fault(4, THING + kind + " ^p 5 a 1;" + TELLER);
            Check.fault(4, TELLER + kind + " p 5 ^a 1;" + THING);
        }
        Check.fault(4, "page ^p a 1;");
        Check.fault(4, THING + "page ^p a 1;" + TELLER);
        Check.fault(4, TELLER + "page p ^a 1;" + THING);
        Check.fault(4, HEAD + "page ^a a 1;");
        Check.fault(4, HEAD + "page p ^p 1;");
        Check.fault(4, HEAD + "page ^z");
        Check.fault(4, HEAD + "page p ^z");
        Check.good(3, TELLER + THING + "say p 5 a 1;");
        // What a text ahead told isn't told in this one.
        SaidSo x = Check.told(HEAD);
        Check.due("a text without them", Check.tell(x, "ask p 5 a;"), -1);
        Check.due("fault", x.fault(0), 4);
        Check.due("a text without the thing", Check.tell(x, TELLER + "ask p 5 a;"), -1);
        Check.due("place", x.fault(1), TELLER.length() + 8);
    }

    private static void fallingHours() {
        Check.sentence("5 an HOUR ahead of that of the TELLER's LINE ahead (at it).");
        for (String first : new String[] {"ask", "say"}) {
            for (String then : new String[] {"ask", "say"}) {
                String head = HEAD + first + " p 7 a 1;" + then;
                Check.fault(5, head + " p ^5 a 1;");
                Check.fault(5, head + " p ^6 a 1;");
                Check.fault(5, head + " p  ^6 !");
                Check.good(4, head + " p 7 a 1;");
                Check.good(4, head + " p 8 a 1;");
            }
        }
        String two = HEAD + "teller q 9 begins 5 ends 8;";
        Check.good(5, two + "ask p 8 a;ask q 5 a;");
        Check.good(6, two + "ask p 8 a;ask q 5 a;ask p 8 a;");
        Check.fault(5, two + "ask p 8 a;ask q 5 a;ask p ^7 a;");
        Check.fault(5, two + "ask q 6 a;ask p 5 a;ask q ^5 a;");
        // Another thing's line counts too, a page line doesn't.
        Check.fault(5, "thing b 2 is 0;" + HEAD + "ask p 6 b;ask p ^5 a;");
        Check.good(5, HEAD + "ask p 6 a;page p a 1;ask p 6 a;");
    }

    private static void heard() {
        Check.sentence("HEARD: only TALK LINES up to an HOUR are there (199 at first: all).");
        String text = THING + "teller p 9 begins 0 ends 199;teller q 9 begins 0 ends 199;say p 0 a 1;ask q 1 a;say p 1 a 2;say q 198 a 3;say p 199 a 0;";
        SaidSo x = Check.told(text);
        Check.due("at first", x.count(6), 199);
        Check.due("all", x.count(3), 5);
        Check.due("the latest", x.story(0, 0), 0);
        int[] hours = {0, 1, 2, 197, 198, 199};
        int[] heard = {1, 3, 3, 3, 4, 5};
        for (int i = 0; i < hours.length; i++) {
            Check.due("hear(" + hours[i] + ")", x.hear(hours[i]), heard[i]);
            Check.due("heard", x.count(3), heard[i]);
            Check.due("all", x.count(2), 5);
            Check.due("the first", x.line(0, 0), 1);
            Check.due("the last", x.line(4, 0), hours[i] == 199 ? 1 : -2);
            Check.due("the last but one", x.word(3), hours[i] >= 198 ? 2 + 64 : -1);
            Check.due("story", x.story(0, 0), hours[i] == 0 ? 1 : hours[i] == 199 ? 0 : 2);
        }
        x = new SaidSo();
        Check.due("199 at first, without a case", x.count(6), 199);
        Check.due("none are there", x.hear(0), 0);
        Check.due("heard up to 0", x.count(6), 0);
    }
}
