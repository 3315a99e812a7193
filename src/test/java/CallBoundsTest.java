/** Boundary cases of promises 1 to 16, each argument at its bounds and beyond them. */
final class CallBoundsTest {
    private static final int MIN = Integer.MIN_VALUE;
    private static final int MAX = Integer.MAX_VALUE;
    private static final int BLANKS = 0x20202020;
    private static final String HEAD = "thing a 4 is 2;teller p 9 begins 5 ends 8;";

    public static void main(String[] args) {
        newObject();
        newDefaults();
        feed();
        feedOrder();
        feedMost();
        tell();
        tellKeepsFirstBytes();
        tellTakesAllBytes();
        tellAnew();
        tellFault();
        tellNotSoMany();
        fault();
        faultWhat();
        named();
        namedLetters();
        namedNone();
        look();
        lookThing();
        lookWhat();
        teller();
        tellerNone();
        line();
        lineNone();
        say();
        sayMost();
        sayNone();
        undo();
        undoNone();
        hear();
        hearNone();
        word();
        wordNone();
        led();
        ledNone();
        words();
        wordsNone();
        truth();
        begin();
        calls();
        Check.end();
    }

    private static void newObject() {
        Check.promise(1, "No CASE; TRUTH 9, ODDS 1 to 1, all HEARD, nobody there; an empty TAPE of bytes.");
        SaidSo x = new SaidSo();
        int[] counts = {0, 0, 0, 0, 0, 0, 199, 0};
        for (int what = 0; what < 8; what++) {
            Check.due("count(" + what + ")", x.count(what), counts[what]);
        }
        Check.due("fault(0)", x.fault(0), 0);
        Check.due("fault(1)", x.fault(1), -1);
        Check.due("named(0, 0)", x.named(0, 0), -1);
        Check.due("named(1, 0)", x.named(1, 0), -1);
        Check.due("look(0, 0)", Check.looked(x, 0, 0), -10);
        Check.due("teller(0, 0)", x.teller(0, 0), -1);
        Check.due("line(0, 0)", x.line(0, 0), -2);
        Check.due("say", x.say(true, 0, 0, 0, 0), -1);
        Check.due("say", x.say(false, 0, 0, 0, -1), -1);
        Check.due("undo", x.undo(), -1);
        Check.due("word(0)", x.word(0), -1);
        Check.due("led(0)", x.led(0), -1);
        Check.due("words(0, 1)", x.words(0, 1), -1);
        Check.due("odds(0, 0, 0)", x.odds(0, 0, 0), -1);
        Check.due("page(0)", x.page(0), -1);
        Check.due("left(0)", x.left(0), -1);
        Check.due("moved(0)", x.moved(0), -1);
        Check.due("story(0, 0)", x.story(0, 0), -2);
        Check.due("clash(0, 1)", x.clash(0, 1), -1);
        Check.due("together()", x.together(), 0);
        Check.due("lies(0)", x.lies(0), 0);
        Check.due("lies(1)", x.lies(1), -1);
        Check.due("supposed(0)", x.supposed(0), -1);
        Check.due("law(0)", x.law(0), -1);
        Check.due("draws(0, 0, 1)", x.draws(0, 0, 1), -1);
        Check.due("barred(0)", x.barred(0), -1);
        Check.due("jury(0, 0)", x.jury(0, 0), -1);
        for (int by = 0; by < 3; by++) {
            Check.due("found(" + by + ", 0)", x.found(by, 0), 0);
            Check.due("found(" + by + ", 1)", x.found(by, 1), 0);
        }
        Check.due("there(0)", x.there(0), 0);
        Check.due("there(1)", x.there(1), -1);
        Check.due("tell(1)", x.tell(1), -2);
        Check.due("hear(199)", x.hear(199), 0);
        Check.due("tell(0)", x.tell(0), 0);
    }

    private static void newDefaults() {
        Check.promise(1, "TRUTH 9, ODDS 1 to 1, all HEARD, nobody there");
        SaidSo x = Check.told(HEAD + "say p 8 a 2;jury 0;");
        Check.due("for", x.odds(0, 0, 0), 18);
        Check.due("against", x.odds(0, 0, 1), 5);
        Check.due("heard", x.count(3), 1);
        Check.due("nobody is freed", x.found(2, 1), 0);
        // Two objects have nothing in common.
        SaidSo y = Check.told(HEAD);
        y.truth(1);
        y.begin(3, 4);
        y.hear(0);
        y.there(1);
        Check.due("for", x.odds(0, 0, 0), 18);
        Check.due("heard", x.count(3), 1);
        Check.due("lines of the other", y.count(2), 0);
    }

    private static void feed() {
        Check.promise(2, "Twenty bytes come behind the bytes, four of each number, the highest first: how many there are");
        SaidSo x = new SaidSo();
        for (int many = 20; many <= 800; many += 20) {
            Check.due("feed", x.feed(BLANKS, BLANKS, BLANKS, BLANKS, BLANKS), many);
        }
    }

    private static void feedOrder() {
        Check.promise(2, "four of each number, the highest first");
        // The text "law 1+2-3*4/5<6 ;   " in five numbers; then each of its bytes made a sign that is none.
        int[] five = {0x6c617720, 0x312b322d, 0x332a342f, 0x353c3620, 0x3b202020};
        SaidSo x = new SaidSo();
        x.feed(five[0], five[1], five[2], five[3], five[4]);
        Check.due("tell(17)", x.tell(17), 1);
        for (int at = 0; at < 20; at++) {
            int[] spoilt = five.clone();
            spoilt[at / 4] |= 0xff << 24 - at % 4 * 8;
            x.feed(spoilt[0], spoilt[1], spoilt[2], spoilt[3], spoilt[4]);
            Check.due("tell(20), spoilt at " + at, x.tell(20), -1);
            Check.due("fault", x.fault(0), 1);
            // The first word is none once its second or third letter isn't one.
            Check.due("place", x.fault(1), at < 3 ? 0 : at);
        }
        // Numbers at the ends of an int.
        for (int number : new int[] {MIN, -1, 0, MAX}) {
            Check.due("feed", x.feed(number, BLANKS, BLANKS, BLANKS, BLANKS), 20);
            Check.due("tell(20)", x.tell(20), -1);
            Check.due("place", x.fault(1), 0);
        }
        // What comes later comes behind.
        x.feed(BLANKS, BLANKS, BLANKS, BLANKS, BLANKS);
        x.feed(five[0], five[1], five[2], five[3], five[4]);
        Check.due("tell(37)", x.tell(37), 1);
        x.feed(BLANKS, BLANKS, BLANKS, BLANKS, BLANKS);
        x.feed(BLANKS, BLANKS, BLANKS, BLANKS, 0x20202021);
        Check.due("tell(39)", x.tell(39), 0);
        x.feed(BLANKS, BLANKS, BLANKS, BLANKS, BLANKS);
        x.feed(BLANKS, BLANKS, BLANKS, BLANKS, 0x20202021);
        Check.due("tell(40)", x.tell(40), -1);
        Check.due("place", x.fault(1), 39);
    }

    private static void feedMost() {
        Check.promise(2, "NONE, and none come, if there would be more than 800.");
        SaidSo x = new SaidSo();
        for (int many = 20; many <= 780; many += 20) {
            x.feed(BLANKS, BLANKS, BLANKS, BLANKS, BLANKS);
        }
        Check.due("up to 800", x.feed(BLANKS, BLANKS, BLANKS, BLANKS, BLANKS), 800);
        for (int i = 0; i < 3; i++) {
            Check.due("beyond 800", x.feed(-1, -1, -1, -1, -1), -1);
        }
        Check.due("there are 800", x.tell(801), -2);
        Check.due("tell(800)", x.tell(800), 0);
        Check.due("then there are none", x.feed(BLANKS, BLANKS, BLANKS, BLANKS, BLANKS), 20);
        // A text that takes all bytes, to the last one.
        String text = " ".repeat(794) + "law 1;";
        Check.due("tell(800)", Check.tell(new SaidSo(), text), 1);
        x = new SaidSo();
        Check.feed(x, text);
        Check.due("tell(799)", x.tell(799), -1);
        Check.due("place", x.fault(1), 799);
    }

    private static void tell() {
        Check.promise(3, "The first n bytes (there are none then) are the CASE (all HEARD, nobody there then): how many LINES");
        SaidSo x = new SaidSo();
        Check.due("tell(0), nothing fed", x.tell(0), 0);
        Check.due("one line", Check.tell(x, "law 1;"), 1);
        Check.due("two lines", Check.tell(x, "law 1;bar 1;"), 2);
        Check.due("knots", x.count(5), 2);
        Check.due("no lines", x.tell(0), 0);
        Check.due("knots", x.count(5), 0);
        for (int what = 0; what < 8; what++) {
            Check.due("count(" + what + ") of an empty case", x.count(what), what == 6 ? 199 : 0);
        }
    }

    private static void tellKeepsFirstBytes() {
        Check.promise(3, "The first n bytes");
        String text = "thing a 2 is 0;thing b 2 is 0;";
        for (int n = 0; n <= 30; n++) {
            SaidSo x = new SaidSo();
            Check.feed(x, text);
            boolean good = n % 15 == 0;
            Check.due("tell(" + n + ")", x.tell(n), good ? n / 15 : -1);
            Check.due("things", x.count(0), good ? n / 15 : 0);
        }
    }

    private static void tellTakesAllBytes() {
        Check.promise(3, "(there are none then)");
        for (int n : new int[] {0, 15, 16, 40}) {
            SaidSo x = new SaidSo();
            Check.feed(x, "thing a 2 is 0;thing b 2 is 0; ;");
            x.tell(n);
            Check.due("tell(1) behind tell(" + n + ")", x.tell(1), -2);
            Check.due("feed behind tell(" + n + ")", x.feed(BLANKS, BLANKS, BLANKS, BLANKS, 0), 20);
            Check.due("tell(16)", x.tell(16), 0);
        }
    }

    private static void tellAnew() {
        Check.promise(3, "(all HEARD, nobody there then)");
        SaidSo x = Check.told(HEAD + "say p 6 a 2;jury 0;");
        x.hear(0);
        x.there(1);
        x.say(true, 0, 7, 0, 1);
        x.truth(1);
        x.begin(3, 5);
        Check.due("the same again", Check.tell(x, HEAD + "say p 6 a 2;jury 0;"), 4);
        Check.due("all heard", x.count(6), 199);
        Check.due("all heard", x.count(3), 1);
        Check.due("nobody there", x.found(2, 1), 0);
        Check.due("no lines by say()", x.count(7), 0);
        Check.due("nothing to undo", x.undo(), -1);
        // TRUTH and the ODDS to begin with are none of the CASE: 3 to 5 times 1 times 4 by 10.
        Check.due("for", x.odds(0, 0, 0), 6);
        Check.due("against", x.odds(0, 0, 1), 25);
        // However often a case comes, whatever was done with those ahead of it.
        for (int i = 0; i < 5; i++) {
            x.there(1);
            x.hear(0);
            x.say(true, 0, 8, 0, 1);
            Check.tell(x, i % 2 == 0 ? HEAD + "jury 0;" : HEAD + "say p 6 a 2;jury 0;");
            Check.due("all heard", x.count(6), 199);
            Check.due("nobody there", x.found(0, 1), 0);
            Check.due("no lines by say()", x.count(7), 0);
            Check.due("lines", x.count(2), i % 2);
        }
    }

    private static void tellFault() {
        Check.promise(3, "NONE with a FAULT, all stays");
        String[] bad = {"!", "thing z 1 is 0;", "law 1;law 1;", "ask z 1 z;", HEAD + "ask p 6 a;ask p 5 a;", HEAD + "say p 5 a 1;page p a 1;law 1;bar 1;jury 1;!"};
        for (String text : bad) {
            SaidSo x = Check.told(HEAD + "say p 6 a 2;page p a 2;jury right;law 7;bar 0;");
            x.hear(6);
            x.there(1);
            x.say(true, 0, 7, 0, 1);
            x.truth(1);
            x.begin(3, 5);
            Check.due("a fault", Check.tell(x, text), -1);
            int[] counts = {1, 1, 2, 1, 1, 3, 6, 1};
            for (int what = 0; what < 8; what++) {
                Check.due("count(" + what + ")", x.count(what), counts[what]);
            }
            Check.due("for", x.odds(0, 0, 0), 6);
            Check.due("against", x.odds(0, 0, 1), 25);
            Check.due("law", x.law(0), 7);
            Check.due("found", x.found(2, 0), 0);
            x.hear(5);
            Check.due("freed", x.found(2, 1), 1);
            Check.due("undo", x.undo(), 0);
            Check.due("the bytes are gone", x.tell(1), -2);
        }
    }

    private static void tellNotSoMany() {
        Check.promise(3, "-2, and the bytes stay: there are not so many, n is below 0.");
        SaidSo x = new SaidSo();
        Check.due("tell(1), nothing fed", x.tell(1), -2);
        Check.due("tell(-1), nothing fed", x.tell(-1), -2);
        Check.feed(x, "thing a 2 is 0;     ");
        for (int n : new int[] {21, 22, 800, 801, MAX, -1, -2, -20, MIN}) {
            Check.due("tell(" + n + ")", x.tell(n), -2);
        }
        Check.due("things", x.count(0), 0);
        Check.due("more bytes", x.feed(BLANKS, BLANKS, BLANKS, BLANKS, BLANKS), 40);
        Check.due("tell(41)", x.tell(41), -2);
        Check.due("tell(40)", x.tell(40), 1);
        Check.due("things", x.count(0), 1);
        Check.due("tell(1), none left", x.tell(1), -2);
        Check.due("things", x.count(0), 1);
    }

    private static void fault() {
        Check.promise(4, "Of the latest tell() that was not -2, what 0: its FAULT (0), 1: its place (NONE without).");
        SaidSo x = new SaidSo();
        int[][] want = {{0, -1}, {0, -1}, {1, 0}, {1, 0}, {2, 8}, {0, -1}, {3, 6}, {3, 6}, {0, -1}};
        String[] texts = {null, "law 1;", "!", null, "thing a 1 is 0;", " ", "law 1;law 1;", null, ""};
        for (int i = 0; i < want.length; i++) {
            if (texts[i] == null) {
                Check.due("tell(999)", x.tell(999), -2);
                Check.due("tell(-1)", x.tell(-1), -2);
            } else {
                Check.tell(x, texts[i]);
            }
            Check.due("fault(0) behind '" + texts[i] + "'", x.fault(0), want[i][0]);
            Check.due("fault(1) behind '" + texts[i] + "'", x.fault(1), want[i][1]);
        }
        // Calls in between change nothing of it.
        Check.tell(x, "law 1;!");
        x.hear(3);
        x.feed(0, 0, 0, 0, 0);
        Check.due("fault(0)", x.fault(0), 1);
        Check.due("fault(1)", x.fault(1), 6);
    }

    private static void faultWhat() {
        Check.promise(4, "NONE for another what.");
        SaidSo x = new SaidSo();
        Check.tell(x, "law 1;!");
        for (int what : new int[] {-1, 2, 3, MIN, MAX}) {
            Check.due("fault(" + what + ")", x.fault(what), -1);
        }
    }

    private static void named() {
        Check.promise(5, "The number of a THING (what 0), a TELLER (1) by its letters");
        SaidSo x = Check.told("thing a 2 is 0;thing bb 2 is 0;teller bb 9 begins 0 ends 1;teller c 9 begins 0 ends 1;");
        String[] names = {"a", "bb", "c", "b"};
        int[] things = {0, 1, -1, -1};
        int[] tellers = {-1, 0, 1, -1};
        for (int i = 0; i < names.length; i++) {
            Check.due("thing " + names[i], x.named(0, Check.letters(names[i])), things[i]);
            Check.due("teller " + names[i], x.named(1, Check.letters(names[i])), tellers[i]);
        }
    }

    private static void namedLetters() {
        Check.promise(5, "5 bits each (a is 1; the first one highest of six, 0 behind the last one)");
        SaidSo x = Check.told("thing a 2 is 0;thing z 2 is 0;thing zzzzzz 2 is 0;thing abcdef 2 is 0;thing aaaaaa 2 is 0;");
        Check.due("a", x.named(0, 1 << 25), 0);
        Check.due("z", x.named(0, 26 << 25), 1);
        Check.due("zzzzzz", x.named(0, 26 << 25 | 26 << 20 | 26 << 15 | 26 << 10 | 26 << 5 | 26), 2);
        Check.due("abcdef", x.named(0, 1 << 25 | 2 << 20 | 3 << 15 | 4 << 10 | 5 << 5 | 6), 3);
        Check.due("aaaaaa", x.named(0, 1 << 25 | 1 << 20 | 1 << 15 | 1 << 10 | 1 << 5 | 1), 4);
    }

    private static void namedNone() {
        Check.promise(5, "NONE: there is none such.");
        SaidSo x = Check.told("thing a 2 is 0;teller a 9 begins 0 ends 1;");
        int a = 1 << 25;
        for (int letters : new int[] {0, 1, a - 1, a + 1, a | 1 << 20, 2 * a, 1 << 30 | a, MIN | a, -1, MIN, MAX, 31 << 25}) {
            Check.due("thing " + letters, x.named(0, letters), -1);
            Check.due("teller " + letters, x.named(1, letters), -1);
        }
        for (int what : new int[] {-1, 2, 3, MIN, MAX}) {
            Check.due("named(" + what + ", a)", x.named(what, a), -1);
        }
        x.tell(0);
        Check.due("a thing of the text ahead", x.named(0, a), -1);
        Check.due("a teller of the text ahead", x.named(1, a), -1);
    }

    private static void look() {
        Check.promise(6, "Of a THING, what 0: WAYS, 1: what it IS, 2: PAPER, 3: POLICE (NONE: never).");
        SaidSo x = Check.told("thing a 2 is 1;thing b 9 is 8 paper 0 police 199;thing c 3 is 0 police 7;thing d 4 is 0 paper 7;");
        int[][] want = {{2, 1, -1, -1}, {9, 8, 0, 199}, {3, 0, -1, 7}, {4, 0, 7, -1}};
        for (int thing = 0; thing < want.length; thing++) {
            for (int what = 0; what < 4; what++) {
                Check.due("look(" + thing + ", " + what + ")", x.look(thing, what), want[thing][what]);
            }
        }
    }

    private static void lookThing() {
        Check.promise(6, "IndexOutOfBoundsException: no such THING.");
        Check.due("without a case", Check.looked(new SaidSo(), 0, 0), -10);
        for (int many = 1; many <= 8; many++) {
            SaidSo x = Check.told(Check.each("thing ", 'a', many, " 2 is 0;"));
            Check.due("the last", Check.looked(x, many - 1, 0), 2);
            Check.due("one more", Check.looked(x, many, 0), -10);
        }
        SaidSo x = Check.told(Check.each("thing ", 'a', 8, " 2 is 0;"));
        for (int thing : new int[] {-1, 8, 9, MIN, MAX}) {
            Check.due("look(" + thing + ", 0)", Check.looked(x, thing, 0), -10);
            Check.due("look(" + thing + ", 3)", Check.looked(x, thing, 3), -10);
        }
        x.tell(0);
        Check.due("a thing of the text ahead", Check.looked(x, 0, 0), -10);
    }

    private static void lookWhat() {
        Check.promise(6, "NoSuchElementException: no such what.");
        SaidSo x = Check.told("thing a 2 is 0;");
        for (int what : new int[] {-1, 4, 5, MIN, MAX}) {
            Check.due("look(0, " + what + ")", Check.looked(x, 0, what), -11);
        }
        Check.due("look(0, 0)", Check.looked(x, 0, 0), 2);
        Check.due("look(0, 3)", Check.looked(x, 0, 3), -1);
    }

    private static void teller() {
        Check.promise(7, "Of a TELLER, what 0: AGE, 1: HOUR of begin, 2: of end, 3: of TAPE (NONE).");
        SaidSo x = Check.told("teller a 1 begins 0 ends 0;teller b 99 begins 199 ends 199 tape 199;teller c 9 begins 0 ends 199 tape 0;"
                + "teller d 9 begins 5 ends 8 tape 6;teller e 9 begins 5 ends 8;");
        int[][] want = {{1, 0, 0, -1}, {99, 199, 199, 199}, {9, 0, 199, 0}, {9, 5, 8, 6}, {9, 5, 8, -1}};
        for (int teller = 0; teller < 5; teller++) {
            for (int what = 0; what < 4; what++) {
                Check.due("teller(" + teller + ", " + what + ")", x.teller(teller, what), want[teller][what]);
            }
        }
    }

    private static void tellerNone() {
        Check.promise(7, "NONE: no such ones.");
        SaidSo x = Check.told("teller a 1 begins 2 ends 3 tape 3;teller b 1 begins 2 ends 3 tape 3;");
        for (int number : new int[] {-1, 2, 4, 5, MIN, MAX}) {
            for (int what = 0; what < 4; what++) {
                Check.due("teller(" + number + ", " + what + ")", x.teller(number, what), -1);
            }
        }
        for (int what : new int[] {-1, 4, 5, MIN, MAX}) {
            Check.due("teller(0, " + what + ")", x.teller(0, what), -1);
        }
        x.tell(0);
        Check.due("a teller of the text ahead", x.teller(0, 0), -1);
    }

    private static void line() {
        Check.promise(8, "Of a HEARD TALK LINE, what 0: whether a WORD (1) or an ask (0), 1: TELLER, 2: HOUR, 3: THING, 4: VALUE (NONE: an ask without one).");
        SaidSo x = Check.told("thing a 9 is 2;thing b 2 is 1;teller p 9 begins 0 ends 199;teller q 9 begins 5 ends 5;"
                + "ask p 0 b;ask q 5 a 0;say p 3 a 8;say p 199 b 0;");
        int[][] want = {{0, 0, 0, 1, -1}, {0, 1, 5, 0, 0}, {1, 0, 3, 0, 8}, {1, 0, 199, 1, 0}};
        int[] hours = {199, 0, 5, 3, 198};
        for (int hour : hours) {
            x.hear(hour);
            for (int line = 0; line < 4; line++) {
                for (int what = 0; what < 5; what++) {
                    Check.due("line(" + line + ", " + what + "), heard up to " + hour, x.line(line, what), want[line][2] <= hour ? want[line][what] : -2);
                }
            }
        }
    }

    private static void lineNone() {
        Check.promise(8, "-2: no such ones.");
        SaidSo x = Check.told(HEAD + "ask p 5 a 1;");
        Check.due("the only one", x.line(0, 0), 0);
        for (int line : new int[] {-1, 1, 40, 59, 60, MIN, MAX}) {
            for (int what = 0; what < 5; what++) {
                Check.due("line(" + line + ", " + what + ")", x.line(line, what), -2);
            }
        }
        for (int what : new int[] {-1, 5, 6, MIN, MAX}) {
            Check.due("line(0, " + what + ")", x.line(0, what), -2);
        }
        x.say(true, 0, 5, 0, 1);
        Check.due("one more", x.line(1, 0), 1);
        x.undo();
        Check.due("taken back", x.line(1, 0), -2);
    }

    private static void say() {
        Check.promise(9, "A TALK LINE more (60 in all; value NONE: an ask without one): its number");
        SaidSo x = Check.told(HEAD + "teller q 9 begins 0 ends 199;ask p 6 a;");
        Check.due("a word", x.say(true, 0, 6, 0, 0), 1);
        Check.due("an ask", x.say(false, 0, 6, 0, 3), 2);
        Check.due("an ask without a value", x.say(false, 0, 8, 0, -1), 3);
        Check.due("a word at the first hour", x.say(true, 1, 0, 0, 3), 4);
        Check.due("a word at the last hour", x.say(true, 1, 199, 0, 3), 5);
        int[][] want = {{1, 0, 6, 0, 0}, {0, 0, 6, 0, 3}, {0, 0, 8, 0, -1}, {1, 1, 0, 0, 3}, {1, 1, 199, 0, 3}};
        for (int line = 1; line <= 5; line++) {
            for (int what = 0; what < 5; what++) {
                Check.due("line(" + line + ", " + what + ")", x.line(line, what), want[line - 1][what]);
            }
        }
        // One that isn't heard has a number all the same.
        x.hear(0);
        Check.due("not heard", x.say(true, 0, 8, 0, 0), 6);
        Check.due("in all", x.count(2), 7);
        Check.due("heard", x.count(3), 1);
    }

    private static void sayMost() {
        Check.promise(9, "(60 in all; value NONE: an ask without one)");
        for (int told : new int[] {0, 1, 40}) {
            SaidSo x = Check.told(HEAD + "ask p 5 a;".repeat(told));
            for (int i = told; i < 60; i++) {
                Check.due("say", i % 2 == 0 ? x.say(true, 0, 5, 0, 1) : x.say(false, 0, 5, 0, -1), i);
            }
            Check.due("a 61st word", x.say(true, 0, 5, 0, 1), -1);
            Check.due("a 61st ask", x.say(false, 0, 5, 0, -1), -1);
            Check.due("in all", x.count(2), 60);
            Check.due("by say()", x.count(7), 60 - told);
            Check.due("undo", x.undo(), 59 - told);
            Check.due("a 60th again", x.say(true, 0, 5, 0, 1), 59);
            Check.due("a 61st again", x.say(true, 0, 5, 0, 1), -1);
        }
    }

    private static void sayNone() {
        Check.promise(9, "NONE: it can't be, value NONE for a WORD.");
        String text = "thing a 4 is 2;thing b 2 is 0;teller p 9 begins 5 ends 8;teller q 9 begins 0 ends 199;ask p 6 a;ask q 3 b;";
        SaidSo x = Check.told(text);
        for (int teller : new int[] {-1, 2, 5, MIN, MAX}) {
            no(x, false, teller, 6, 0, 1);
            no(x, true, teller, 6, 0, 1);
        }
        for (int thing : new int[] {-1, 2, 8, MIN, MAX}) {
            no(x, false, 0, 6, thing, 1);
            no(x, true, 0, 6, thing, 1);
        }
        // Out of his talk, or ahead of his line ahead.
        for (int hour : new int[] {-1, 0, 4, 5, 9, 199, 200, MIN, MAX}) {
            no(x, false, 0, hour, 0, 1);
            no(x, true, 0, hour, 0, 1);
        }
        for (int hour : new int[] {-1, 0, 2, 200, MIN, MAX}) {
            no(x, false, 1, hour, 1, 1);
        }
        for (int value : new int[] {-2, 4, 5, 9, MIN, MAX}) {
            no(x, false, 0, 6, 0, value);
            no(x, true, 0, 6, 0, value);
        }
        no(x, true, 0, 6, 1, 2);
        no(x, false, 0, 6, 1, 2);
        no(x, true, 0, 6, 0, -1);
        no(x, true, 0, 6, 1, -1);
        Check.due("at the hour of his line ahead", x.say(true, 0, 6, 0, 3), 2);
        Check.due("at his last hour", x.say(false, 0, 8, 1, 1), 3);
        no(x, true, 0, 7, 0, 0);
        Check.due("the other's", x.say(false, 1, 3, 1, -1), 4);
        // Lines that aren't heard are his lines too.
        x.hear(0);
        no(x, true, 0, 7, 0, 0);
        x = Check.told("thing a 4 is 2;teller p 9 begins 5 ends 8;");
        no(x, true, 0, 4, 0, 1);
        Check.due("at his first hour", x.say(true, 0, 5, 0, 1), 0);
    }

    private static void no(SaidSo x, boolean word, int teller, int hour, int thing, int value) {
        int all = x.count(2);
        Check.due("say(" + word + ", " + teller + ", " + hour + ", " + thing + ", " + value + ")", x.say(word, teller, hour, thing, value), -1);
        Check.due("lines behind it", x.count(2), all);
    }

    private static void undo() {
        Check.promise(10, "The latest TALK LINE told by say() is taken back: how many of those there are");
        SaidSo x = Check.told(HEAD + "say p 5 a 0;");
        for (int value = 1; value < 4; value++) {
            x.say(true, 0, 5 + value, 0, value);
        }
        for (int left = 2; left >= 0; left--) {
            Check.due("undo", x.undo(), left);
            Check.due("by say()", x.count(7), left);
            Check.due("in all", x.count(2), left + 1);
            Check.due("story", x.story(0, 0), left);
        }
        Check.due("an hour that was too early comes again", x.say(true, 0, 5, 0, 3), 1);
        // It is taken back though it isn't heard.
        x.say(true, 0, 8, 0, 3);
        x.hear(5);
        Check.due("undo", x.undo(), 1);
        Check.due("undo", x.undo(), 0);
        Check.due("the text's own line stays", x.line(0, 4), 0);
    }

    private static void undoNone() {
        Check.promise(10, "NONE: none.");
        Check.due("without a case", new SaidSo().undo(), -1);
        SaidSo x = Check.told(HEAD + "say p 5 a 0;");
        Check.due("a line of the text", x.undo(), -1);
        Check.due("in all", x.count(2), 1);
        x.say(true, 0, 5, 0, 1);
        Check.due("one", x.undo(), 0);
        Check.due("none", x.undo(), -1);
        Check.due("none", x.undo(), -1);
        Check.due("in all", x.count(2), 1);
        x.say(true, 0, 5, 0, 1);
        Check.tell(x, HEAD);
        Check.due("one of the case ahead", x.undo(), -1);
    }

    private static void hear() {
        Check.promise(11, "HEARD up to an HOUR (0 .. 199): how many TALK LINES are");
        SaidSo x = Check.told("thing a 4 is 2;teller p 9 begins 0 ends 199;ask p 0 a;say p 1 a 1;say p 1 a 2;say p 198 a 2;say p 199 a 3;");
        int[][] want = {{0, 1}, {1, 3}, {2, 3}, {197, 3}, {198, 4}, {199, 5}, {0, 1}};
        for (int[] pair : want) {
            Check.due("hear(" + pair[0] + ")", x.hear(pair[0]), pair[1]);
            Check.due("heard up to", x.count(6), pair[0]);
        }
        Check.due("without a case", new SaidSo().hear(7), 0);
        Check.due("no lines", Check.told(HEAD).hear(7), 0);
        // Lines of several tellers in any order of hours, and those told by say().
        x = Check.told(HEAD + "teller q 9 begins 0 ends 9;say p 8 a 1;say q 0 a 1;");
        Check.due("hear(0)", x.hear(0), 1);
        Check.due("the second", x.line(1, 2), 0);
        x.say(true, 1, 0, 0, 1);
        Check.due("hear(0)", x.hear(0), 2);
        Check.due("hear(8)", x.hear(8), 3);
    }

    private static void hearNone() {
        Check.promise(11, "NONE: no such HOUR.");
        SaidSo x = Check.told(HEAD + "say p 6 a 1;");
        x.hear(5);
        for (int hour : new int[] {-1, 200, 201, MIN, MAX}) {
            Check.due("hear(" + hour + ")", x.hear(hour), -1);
            Check.due("heard up to", x.count(6), 5);
            Check.due("heard", x.count(3), 0);
        }
    }

    private static void word() {
        Check.promise(12, "What a HEARD WORD is (bits): 1 RIGHT, 2 FIRST, 4 LED, 8 PUBLIC, 16 OFF, 32 NEW, 64 CLEAN.");
        SaidSo x = Check.told("thing a 4 is 2;thing b 4 is 1 paper 6;thing c 4 is 0 police 6;teller p 9 begins 5 ends 8;"
                + "say p 5 a 1;ask p 5 a 2;say p 5 a 2;say p 5 b 1;say p 6 b 1;say p 6 c 0;say p 7 c 1;");
        int[] want = {2 + 64, -1, 1 + 4 + 32, 1 + 2 + 32 + 64, 1 + 8, 1 + 2 + 16, 0};
        for (int line = 0; line < want.length; line++) {
            Check.due("word(" + line + ")", x.word(line), want[line]);
        }
    }

    private static void wordNone() {
        Check.promise(12, "NONE: no WORD of this number.");
        SaidSo x = Check.told(HEAD + "ask p 5 a 1;say p 6 a 1;");
        for (int line : new int[] {-1, 0, 2, 40, 60, MIN, MAX}) {
            Check.due("word(" + line + ")", x.word(line), -1);
            Check.due("led(" + line + ")", x.led(line), -1);
            Check.due("law(" + line + ")", x.law(line), -1);
        }
        x.hear(5);
        Check.due("word(1), not heard", x.word(1), -1);
        x.hear(6);
        Check.due("word(1), heard", x.word(1), 2 + 4);
    }

    private static void led() {
        Check.promise(13, "By which ask a HEARD WORD was LED, the latest one");
        SaidSo x = Check.told(HEAD + "ask p 5 a 1;say p 5 a 1;ask p 6 a 1;ask p 6 a 2;say p 6 a 1;say p 7 a 2;ask p 7 a 1;say p 8 a 1;");
        int[] want = {-1, 0, -1, -1, 2, 3, -1, 6};
        for (int line = 0; line < want.length; line++) {
            Check.due("led(" + line + ")", x.led(line), want[line]);
        }
    }

    private static void ledNone() {
        Check.promise(13, "NONE: by none, no WORD of this number.");
        SaidSo x = Check.told(HEAD + "ask p 5 a 1;say p 5 a 2;say p 6 a 1;");
        Check.due("an ask", x.led(0), -1);
        Check.due("by none", x.led(1), -1);
        Check.due("by the first", x.led(2), 0);
        for (int line : new int[] {-1, 3, 60, MIN, MAX}) {
            Check.due("led(" + line + ")", x.led(line), -1);
        }
        x.hear(5);
        Check.due("not heard", x.led(2), -1);
    }

    private static void words() {
        Check.promise(14, "Of a TELLER's HEARD WORDS, how many are all that these bits (1 .. 127) tell");
        SaidSo x = Check.told("thing a 4 is 2;thing b 4 is 1 paper 6;thing c 4 is 0 police 6;teller p 9 begins 5 ends 8;teller q 9 begins 5 ends 8;"
                + "say p 5 a 1;ask p 5 a 2;say p 5 a 2;say p 5 b 1;say p 6 b 1;say p 6 c 0;say q 6 c 0;say p 7 c 1;");
        int[] bits = {66, 37, 99, 9, 19, 0};
        for (int asked = 1; asked <= 127; asked++) {
            int many = 0;
            for (int word : bits) {
                many += (word & asked) == asked ? 1 : 0;
            }
            Check.due("words(0, " + asked + ")", x.words(0, asked), many);
            Check.due("words(1, " + asked + ")", x.words(1, asked), (19 & asked) == asked ? 1 : 0);
        }
        x.hear(5);
        Check.due("right ones, heard", x.words(0, 1), 2);
        x.hear(4);
        Check.due("none heard", x.words(0, 1), 0);
        x = Check.told(HEAD);
        for (int i = 0; i < 60; i++) {
            x.say(true, 0, 5, 0, 2);
        }
        Check.due("sixty words", x.words(0, 1), 60);
        Check.due("one is first", x.words(0, 2), 1);
    }

    private static void wordsNone() {
        Check.promise(14, "how many are all that these bits (1 .. 127) tell; NONE: no such ones.");
        SaidSo x = Check.told(HEAD + "say p 5 a 2;");
        Check.due("words(0, 1)", x.words(0, 1), 1);
        Check.due("words(0, 127)", x.words(0, 127), 0);
        for (int bits : new int[] {0, -1, 128, 129, 255, MIN, MAX}) {
            Check.due("words(0, " + bits + ")", x.words(0, bits), -1);
        }
        for (int teller : new int[] {-1, 1, 5, MIN, MAX}) {
            Check.due("words(" + teller + ", 1)", x.words(teller, 1), -1);
            Check.due("words(" + teller + ", 1), eight things", Check.told(HEAD + Check.each("thing x", 'a', 7, " 2 is 0;")).words(teller, 1), -1);
        }
        x = Check.told(Check.each("teller ", 'a', 5, " 9 begins 0 ends 9;"));
        Check.due("the fifth", x.words(4, 1), 0);
        Check.due("a sixth", x.words(5, 1), -1);
    }

    private static void truth() {
        Check.promise(15, "TRUTH: true; false: no such one.");
        SaidSo x = Check.told(HEAD + "say p 5 a 2;");
        // 4 ways: 4 a by 10.
        int[][] odds = {{2, 5}, {4, 5}, {6, 5}, {8, 5}, {2, 1}, {12, 5}, {14, 5}, {16, 5}, {18, 5}};
        for (int a = 1; a <= 9; a++) {
            Check.due("truth(" + a + ")", x.truth(a), true);
            for (int no : new int[] {0, 10, -1, 11, 90, MIN, MAX}) {
                Check.due("truth(" + no + ")", x.truth(no), false);
            }
            Check.due("for", x.odds(0, 0, 0), odds[a - 1][0]);
            Check.due("against", x.odds(0, 0, 1), odds[a - 1][1]);
        }
        Check.due("without a case", new SaidSo().truth(1), true);
    }

    private static void begin() {
        Check.promise(16, "ODDS to begin with: true; false: no such ones.");
        SaidSo x = Check.told(HEAD);
        int[] bad = {0, -1, 100, 101, MIN, MAX};
        int[][] good = {{1, 1}, {1, 99}, {99, 1}, {98, 97}};
        for (int[] pair : good) {
            Check.due("begin(" + pair[0] + ", " + pair[1] + ")", x.begin(pair[0], pair[1]), true);
            for (int no : bad) {
                Check.due("begin(" + no + ", 2)", x.begin(no, 2), false);
                Check.due("begin(2, " + no + ")", x.begin(2, no), false);
                Check.due("begin(" + no + ", " + no + ")", x.begin(no, no), false);
            }
            Check.due("for", x.odds(0, 0, 0), pair[0]);
            Check.due("against", x.odds(0, 0, 1), pair[1]);
        }
        Check.due("without a case", new SaidSo().begin(99, 99), true);
    }

    private static void calls() {
        Check.sentence("An object is used for at most 512 calls after it has been made");
        SaidSo x = new SaidSo();
        for (int call = 1; call <= 510; call++) {
            Check.due("call " + call, x.hear(call % 200), 0);
        }
        Check.due("call 511", x.feed(0x6c617720, 0x313b2020, BLANKS, BLANKS, BLANKS), 20);
        Check.due("call 512", x.tell(6), 1);
    }
}
