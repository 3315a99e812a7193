/** Boundary cases of promises 17 to 32, each argument at its bounds and beyond them. */
final class AnswerBoundsTest {
    private static final int MIN = Integer.MIN_VALUE;
    private static final int MAX = Integer.MAX_VALUE;
    private static final String HEAD = "thing a 4 is 2;teller p 9 begins 5 ends 8;";
    private static final String TWO = "thing a 4 is 2;thing b 4 is 1;teller p 9 begins 5 ends 8;teller q 19 begins 5 ends 8;";
    private static final String FIVE = "teller p 10 begins 0 ends 9;teller q 20 begins 0 ends 9;teller r 30 begins 0 ends 9;"
            + "teller s 40 begins 0 ends 9;teller t 50 begins 0 ends 9;";

    public static void main(String[] args) {
        odds();
        oddsNone();
        page();
        pageNone();
        left();
        leftNone();
        moved();
        movedNone();
        story();
        storyNone();
        storyNoSuch();
        clash();
        clashNone();
        together();
        lies();
        liesNone();
        supposed();
        supposedNone();
        law();
        lawNone();
        draws();
        drawsNone();
        barred();
        barredNone();
        jury();
        juryNone();
        there();
        thereNone();
        found();
        foundNone();
        counts();
        countMost();
        countNone();
        Check.end();
    }

    /** Numbers of no TELLER, where there are so many. */
    private static int[] noTellers(int many) {
        return new int[] {-1, many, many + 1, 5, 32, MIN, MAX};
    }

    private static void odds() {
        Check.promise(17, "ODDS of a TELLER, kind 0: as they are, 1: WITH, 2: of the page; what 0: for, 1: against.");
        SaidSo x = Check.told("thing a 4 is 2;thing b 4 is 1 police 5;teller p 9 begins 5 ends 8;teller q 19 begins 5 ends 8;"
                + "say p 5 a 2;say p 5 b 1;page p a 1;say q 5 a 1;");
        long[][] p = {{18, 5}, {324, 25}, {2, 15}};
        long[][] q = {{2, 15}, {2, 15}, {1, 1}};
        for (int kind = 0; kind < 3; kind++) {
            for (int what = 0; what < 2; what++) {
                Check.due("odds(0, " + kind + ", " + what + ")", x.odds(0, kind, what), p[kind][what]);
                Check.due("odds(1, " + kind + ", " + what + ")", x.odds(1, kind, what), q[kind][what]);
            }
        }
    }

    private static void oddsNone() {
        Check.promise(17, "NONE: no such ones.");
        SaidSo x = Check.told(TWO + "say p 5 a 2;page p a 2;");
        for (int teller : noTellers(2)) {
            for (int kind = 0; kind < 3; kind++) {
                Check.due("odds(" + teller + ", " + kind + ", 0)", x.odds(teller, kind, 0), -1);
                Check.due("odds(" + teller + ", " + kind + ", 1)", x.odds(teller, kind, 1), -1);
            }
        }
        for (int kind : new int[] {-1, 3, 4, MIN, MAX}) {
            Check.due("odds(0, " + kind + ", 0)", x.odds(0, kind, 0), -1);
        }
        for (int what : new int[] {-1, 2, 3, MIN, MAX}) {
            Check.due("odds(0, 0, " + what + ")", x.odds(0, 0, what), -1);
            Check.due("odds(0, 2, " + what + ")", x.odds(0, 2, what), -1);
        }
    }

    private static void page() {
        Check.promise(18, "What a PAGE LINE is (0 .. 3)");
        SaidSo x = Check.told(TWO + "say p 5 a 1;say p 6 a 0;page p a 0;page p a 1;page p a 3;page p b 1;");
        for (int page = 0; page < 4; page++) {
            Check.due("page(" + page + ")", x.page(page), page);
        }
    }

    private static void pageNone() {
        Check.promise(18, "NONE: no such one.");
        Check.due("without a case", new SaidSo().page(0), -1);
        Check.due("without pages", Check.told(HEAD + "say p 5 a 1;").page(0), -1);
        for (int many : new int[] {1, 2, 19, 20}) {
            SaidSo x = Check.told(HEAD + "page p a 1;".repeat(many));
            Check.due("the last", x.page(many - 1), 3);
            Check.due("one more", x.page(many), -1);
            for (int page : new int[] {-1, 20, 21, MIN, MAX}) {
                Check.due("page(" + page + ")", x.page(page), -1);
            }
        }
        // A page line is there, whatever is heard.
        SaidSo x = Check.told(HEAD + "say p 5 a 1;page p a 1;");
        x.hear(0);
        Check.due("page(0)", x.page(0), 3);
        x.tell(0);
        Check.due("one of the text ahead", x.page(0), -1);
    }

    private static void left() {
        Check.promise(19, "LEFT OUT of a TELLER: how many");
        SaidSo x = Check.told(TWO + "say p 5 a 1;say p 6 b 0;say q 5 a 0;say q 5 a 2;page q a 0;");
        Check.due("left(0)", x.left(0), 2);
        Check.due("left(1)", x.left(1), 0);
        x.hear(5);
        Check.due("left(0), heard", x.left(0), 1);
        x.hear(4);
        Check.due("left(0), nothing heard", x.left(0), 0);
    }

    private static void leftNone() {
        Check.promise(19, "NONE: no such TELLER.");
        Check.due("without a case", new SaidSo().left(0), -1);
        for (int teller : noTellers(2)) {
            Check.due("left(" + teller + ")", Check.told(TWO).left(teller), -1);
        }
        Check.due("the fifth", Check.told(FIVE).left(4), 0);
    }

    private static void moved() {
        Check.promise(20, "MOVED");
        SaidSo x = Check.told(TWO + "say p 5 a 0;say p 6 a 1;say q 5 a 0;say q 6 a 1;page p a 1;page q a 0;page p a 0;page q a 1;");
        Check.due("moved(0)", x.moved(0), 1);
        Check.due("moved(1)", x.moved(1), 0);
    }

    private static void movedNone() {
        Check.promise(20, "NONE: no such TELLER.");
        Check.due("without a case", new SaidSo().moved(0), -1);
        for (int teller : noTellers(2)) {
            Check.due("moved(" + teller + ")", Check.told(TWO + "page p a 1;").moved(teller), -1);
        }
        Check.due("the fifth", Check.told(FIVE).moved(4), 0);
    }

    private static void story() {
        Check.promise(21, "VALUE of a THING in a STORY");
        SaidSo x = Check.told("thing a 9 is 2;thing b 2 is 1;teller p 9 begins 5 ends 8;teller q 9 begins 5 ends 8;say p 5 a 8;say q 5 b 0;say p 6 b 1;");
        Check.due("story(0, 0)", x.story(0, 0), 8);
        Check.due("story(0, 1)", x.story(0, 1), 1);
        Check.due("story(1, 1)", x.story(1, 1), 0);
    }

    private static void storyNone() {
        Check.promise(21, "NONE: none");
        SaidSo x = Check.told(TWO + "ask p 5 a 1;say q 5 b 0;say p 6 a 0;");
        Check.due("of this thing", x.story(0, 1), -1);
        Check.due("of this thing", x.story(1, 0), -1);
        Check.due("the least", x.story(0, 0), 0);
        x.hear(5);
        Check.due("not heard yet", x.story(0, 0), -1);
    }

    private static void storyNoSuch() {
        Check.promise(21, "-2: no such ones.");
        Check.due("without a case", new SaidSo().story(0, 0), -2);
        SaidSo x = Check.told(TWO + "say p 5 a 0;");
        for (int teller : noTellers(2)) {
            Check.due("story(" + teller + ", 0)", x.story(teller, 0), -2);
        }
        for (int thing : new int[] {-1, 2, 3, 8, MIN, MAX}) {
            Check.due("story(0, " + thing + ")", x.story(0, thing), -2);
            Check.due("story(1, " + thing + ")", x.story(1, thing), -2);
        }
        Check.due("story(2, 2)", x.story(2, 2), -2);
        // As many things as there may be and one teller, and the other way about.
        x = Check.told(Check.each("thing ", 'a', 8, " 2 is 0;") + "teller p 9 begins 0 ends 9;");
        Check.due("story(0, 7)", x.story(0, 7), -1);
        Check.due("story(0, 8)", x.story(0, 8), -2);
        Check.due("story(1, 0)", x.story(1, 0), -2);
        x = Check.told("thing a 2 is 0;" + FIVE);
        Check.due("story(4, 0)", x.story(4, 0), -1);
        Check.due("story(5, 0)", x.story(5, 0), -2);
        Check.due("story(0, 1)", x.story(0, 1), -2);
    }

    private static void clash() {
        Check.promise(22, "CLASH of two TELLERS: how many THINGS");
        SaidSo x = Check.told(TWO + "say p 5 a 1;say q 5 a 2;say p 6 b 0;say q 6 b 1;");
        int[] want = {0, 1, 2};
        for (int i = 0; i < 3; i++) {
            x.hear(4 + i);
            Check.due("clash(0, 1)", x.clash(0, 1), want[i]);
            Check.due("clash(1, 0)", x.clash(1, 0), want[i]);
        }
    }

    private static void clashNone() {
        Check.promise(22, "NONE: no such ones, both the same.");
        Check.due("without a case", new SaidSo().clash(0, 1), -1);
        SaidSo x = Check.told(TWO + "say p 5 a 1;say q 5 a 2;");
        Check.due("both the same", x.clash(0, 0), -1);
        Check.due("both the same", x.clash(1, 1), -1);
        for (int teller : noTellers(2)) {
            Check.due("clash(" + teller + ", 0)", x.clash(teller, 0), -1);
            Check.due("clash(0, " + teller + ")", x.clash(0, teller), -1);
            Check.due("clash(" + teller + ", " + teller + ")", x.clash(teller, teller), -1);
        }
        Check.due("the first and the last of five", Check.told(FIVE).clash(0, 4), 0);
        Check.due("one of five and a sixth", Check.told(FIVE).clash(4, 5), -1);
    }

    private static void together() {
        Check.promise(23, "TOGETHER (bits).");
        for (int many = 0; many <= 5; many++) {
            Check.due("as many as there are", Check.told(Check.each("teller ", 'p', many, " 9 begins 0 ends 9;")).together(), (1 << many) - 1);
        }
        SaidSo x = Check.told("thing a 9 is 2;" + FIVE + "say q 1 a 1;say t 2 a 2;say s 3 a 3;");
        int[] heard = {31, 31, 15, 7};
        for (int hour : new int[] {0, 1, 2, 3, 1, 3, 0}) {
            x.hear(hour);
            Check.due("together(), heard up to " + hour, x.together(), heard[hour]);
        }
    }

    private static void lies() {
        Check.promise(24, "LIES of a set (bits)");
        SaidSo x = Check.told("thing a 9 is 2;" + FIVE + "say p 1 a 1;say q 1 a 2;say t 2 a 3;");
        int[][] want = {{0, 0}, {1, 0}, {16, 0}, {3, 1}, {17, 1}, {18, 1}, {19, 2}, {31, 2}, {28, 0}};
        for (int[] pair : want) {
            Check.due("lies(" + pair[0] + ")", x.lies(pair[0]), pair[1]);
        }
        x.hear(1);
        Check.due("lies(31), heard", x.lies(31), 1);
    }

    private static void liesNone() {
        Check.promise(24, "NONE: bits of no TELLERS.");
        for (int many = 0; many <= 5; many++) {
            SaidSo x = Check.told("thing a 9 is 2;" + Check.each("teller ", 'p', many, " 9 begins 0 ends 9;"));
            Check.due("nobody", x.lies(0), 0);
            Check.due("all of " + many, x.lies((1 << many) - 1), 0);
            Check.due("one more than " + many, x.lies(1 << many), -1);
            Check.due("all and one more than " + many, x.lies((2 << many) - 1), -1);
            for (int set : new int[] {-1, -2, 32, 64, 1 << 30, MIN, MAX, MIN | 1}) {
                Check.due("lies(" + set + ")", x.lies(set), -1);
            }
        }
    }

    private static void supposed() {
        Check.promise(25, "SUPPOSED (bits of THINGS)");
        SaidSo x = Check.told("thing a 2 is 0 police 0;thing b 2 is 0 police 0;thing c 2 is 0;thing d 2 is 0 police 6;thing e 2 is 0 police 0;"
                + "teller p 9 begins 5 ends 8 tape 6;teller q 9 begins 5 ends 8 tape 6;say p 6 a 0;say p 6 b 1;say p 6 c 0;say p 7 d 0;say q 8 e 0;");
        Check.due("supposed(0)", x.supposed(0), 1 + 8);
        Check.due("supposed(1)", x.supposed(1), 16);
        x.hear(6);
        Check.due("supposed(0), heard", x.supposed(0), 1);
        Check.due("supposed(1), heard", x.supposed(1), 0);
        x.hear(5);
        Check.due("supposed(0), nothing heard", x.supposed(0), 0);
    }

    private static void supposedNone() {
        Check.promise(25, "NONE: no such TELLER.");
        Check.due("without a case", new SaidSo().supposed(0), -1);
        for (int teller : noTellers(2)) {
            Check.due("supposed(" + teller + ")", Check.told(TWO).supposed(teller), -1);
        }
        Check.due("the fifth", Check.told(FIVE).supposed(4), 0);
    }

    private static void law() {
        Check.promise(26, "LAW at a HEARD WORD");
        SaidSo x = Check.told(HEAD + "say p 5 a 1;ask p 6 a 1;say p 8 a 1;law hours * 10 + asks;");
        Check.due("law(0)", x.law(0), 0);
        Check.due("law(2)", x.law(2), 31);
    }

    private static void lawNone() {
        Check.promise(26, "NONE: no WORD of this number.");
        SaidSo x = Check.told(HEAD + "ask p 5 a 1;say p 6 a 1;law 7;");
        Check.due("law(1)", x.law(1), 7);
        for (int line : new int[] {-1, 0, 2, 40, 59, 60, MIN, MAX}) {
            Check.due("law(" + line + ")", x.law(line), -1);
        }
        x.hear(5);
        Check.due("law(1), not heard", x.law(1), -1);
        // One told by say() is one.
        x.say(true, 0, 8, 0, 1);
        Check.due("law(2), not heard", x.law(2), -1);
        x.hear(8);
        Check.due("law(2)", x.law(2), 7);
        x.undo();
        Check.due("law(2), taken back", x.law(2), -1);
    }

    private static void draws() {
        Check.promise(27, "Of 1 .. 99 DRAWS by a seed (0 and on): in how many he is as good at least");
        SaidSo x = Check.told(HEAD + "say p 5 a 1;");
        for (int many : new int[] {1, 2, 98, 99}) {
            Check.due("draws(0, 0, " + many + ")", x.draws(0, 0, many), many);
            Check.due("draws(0, MAX, " + many + ")", x.draws(0, MAX, many), many);
        }
        x = Check.told(HEAD + "ask p 5 a 1;say p 5 a 2;law 100;");
        for (int many : new int[] {1, 2, 98, 99}) {
            Check.due("draws(0, 0, " + many + ")", x.draws(0, 0, many), 0);
        }
        // More than he had is as good as well.
        x = Check.told(TWO + "ask p 5 a 2;ask p 5 b 1;say p 5 a 2;say p 5 b 0;law 100;");
        Check.due("two where he had one", x.draws(0, 0, 99), 99);
    }

    private static void drawsNone() {
        Check.promise(27, "NONE: no such ones.");
        SaidSo x = Check.told(TWO + "say p 5 a 1;");
        for (int teller : noTellers(2)) {
            Check.due("draws(" + teller + ", 0, 1)", x.draws(teller, 0, 1), -1);
        }
        for (int seed : new int[] {-1, -2, MIN, MIN + 1}) {
            Check.due("draws(0, " + seed + ", 1)", x.draws(0, seed, 1), -1);
        }
        for (int many : new int[] {0, -1, 100, 101, MIN, MAX}) {
            Check.due("draws(0, 0, " + many + ")", x.draws(0, 0, many), -1);
        }
        Check.due("draws(0, 0, 1)", x.draws(0, 0, 1), 1);
        Check.due("draws(1, MAX, 99)", x.draws(1, MAX, 99), 99);
        Check.due("the fifth", Check.told(FIVE).draws(4, 0, 7), 7);
        Check.due("of two things and one teller", Check.told(HEAD + "thing b 2 is 0;").draws(1, 0, 7), -1);
    }

    private static void barred() {
        Check.promise(28, "Whether a talk is BARRED (1, 0)");
        SaidSo x = Check.told(FIVE + "bar age > 20;");
        for (int teller = 0; teller < 5; teller++) {
            Check.due("barred(" + teller + ")", x.barred(teller), teller > 1 ? 1 : 0);
        }
    }

    private static void barredNone() {
        Check.promise(28, "NONE: no such TELLER.");
        Check.due("without a case", new SaidSo().barred(0), -1);
        for (int many = 0; many <= 5; many++) {
            SaidSo x = Check.told("bar 1;" + Check.each("teller ", 'p', many, " 9 begins 0 ends 9;"));
            Check.due("the last of " + many, x.barred(many - 1), many == 0 ? -1 : 1);
            for (int teller : noTellers(many)) {
                Check.due("barred(" + teller + ")", x.barred(teller), -1);
            }
        }
    }

    private static void jury() {
        Check.promise(29, "Whether JURY finds that a TELLER was there (1, 0), by the PAGE (0), the TAPE (1), BOTH (2)");
        // Of the lines that each hears, one has lines, one hours without off, one off.
        String[] laws = {"lines > 0 and hours = 0", "hours > 0 and lines = 0", "off > 0"};
        for (int by = 0; by < 3; by++) {
            SaidSo x = Check.told("thing a 4 is 2;teller p 9 begins 5 ends 8 tape 7;page p a 1;jury " + laws[by] + ";");
            for (int asked = 0; asked < 3; asked++) {
                Check.due("jury(0, " + asked + ") by '" + laws[by] + "'", x.jury(0, asked), asked == by ? 1 : 0);
            }
        }
    }

    private static void juryNone() {
        Check.promise(29, "NONE: no such ones.");
        Check.due("without a case", new SaidSo().jury(0, 0), -1);
        SaidSo x = Check.told(TWO + "jury 1;");
        for (int by = 0; by < 3; by++) {
            for (int teller : noTellers(2)) {
                Check.due("jury(" + teller + ", " + by + ")", x.jury(teller, by), -1);
            }
        }
        for (int by : new int[] {-1, 3, 4, MIN, MAX}) {
            Check.due("jury(0, " + by + ")", x.jury(0, by), -1);
        }
        Check.due("the fifth", Check.told(FIVE + "jury 1;").jury(4, 2), 1);
    }

    private static void there() {
        Check.promise(30, "WHO was there (bits): how many");
        SaidSo x = Check.told(FIVE + "jury 0;");
        for (int set = 0; set < 32; set++) {
            Check.due("there(" + set + ")", x.there(set), Integer.bitCount(set));
            Check.due("freed", x.found(2, 1), set);
        }
    }

    private static void thereNone() {
        Check.promise(30, "NONE: bits of no TELLERS.");
        for (int many = 0; many <= 5; many++) {
            SaidSo x = Check.told("jury 0;" + Check.each("teller ", 'p', many, " 9 begins 0 ends 9;"));
            int all = (1 << many) - 1;
            Check.due("all of " + many, x.there(all), many);
            for (int set : new int[] {1 << many, all | 1 << many, -1, -2, 32, 33, 1 << 30, MIN, MIN | 1, MAX}) {
                Check.due("there(" + set + ")", x.there(set), -1);
                Check.due("they were there still", x.found(0, 1), all);
            }
        }
    }

    private static void found() {
        Check.promise(31, "By the PAGE (0), the TAPE (1), BOTH (2), what 0: WRONGED, 1: FREED (bits).");
        // By the page the first is found, by the tape the second, by both the third.
        SaidSo x = Check.told("thing a 4 is 2;teller p 10 begins 5 ends 8;teller q 20 begins 5 ends 8 tape 7;teller r 30 begins 5 ends 8;page p a 1;"
                + "jury age = 10 and hours = 0 and lines > 0 or age = 20 and hours = 1 or age = 30 and off > 0;");
        for (int who = 0; who < 8; who++) {
            x.there(who);
            for (int by = 0; by < 3; by++) {
                Check.due("found(" + by + ", 0), " + who + " there", x.found(by, 0), 1 << by & ~who);
                Check.due("found(" + by + ", 1), " + who + " there", x.found(by, 1), who & ~(1 << by));
            }
        }
        x = Check.told(FIVE + "jury 1;");
        Check.due("five wronged", x.found(0, 0), 31);
        x = Check.told(FIVE + "jury 1;bar 1;");
        x.there(31);
        Check.due("nobody wronged", x.found(0, 0), 0);
        Check.due("five freed", x.found(0, 1), 31);
    }

    private static void foundNone() {
        Check.promise(31, "NONE: no such ones.");
        SaidSo[] objects = {new SaidSo(), Check.told(FIVE + "jury 1;")};
        for (SaidSo x : objects) {
            for (int by : new int[] {-1, 3, 4, MIN, MAX}) {
                Check.due("found(" + by + ", 0)", x.found(by, 0), -1);
                Check.due("found(" + by + ", 1)", x.found(by, 1), -1);
            }
            for (int what : new int[] {-1, 2, 3, MIN, MAX}) {
                for (int by = 0; by < 3; by++) {
                    Check.due("found(" + by + ", " + what + ")", x.found(by, what), -1);
                }
            }
        }
    }

    private static void due(SaidSo x, int... counts) {
        for (int what = 0; what < 8; what++) {
            Check.due("count(" + what + ")", x.count(what), counts[what]);
        }
    }

    private static void counts() {
        Check.promise(32, "0 THINGS, 1 TELLERS, 2 TALK LINES in all, 3 those HEARD, 4 PAGE LINES, 5 KNOTS, 6 the HOUR up to which is HEARD, 7 TALK LINES told by say().");
        SaidSo x = new SaidSo();
        due(x, 0, 0, 0, 0, 0, 0, 199, 0);
        Check.tell(x, "thing a 4 is 2;");
        due(x, 1, 0, 0, 0, 0, 0, 199, 0);
        Check.tell(x, HEAD);
        due(x, 1, 1, 0, 0, 0, 0, 199, 0);
        Check.tell(x, HEAD + "say p 6 a 1;");
        due(x, 1, 1, 1, 1, 0, 0, 199, 0);
        x.hear(5);
        due(x, 1, 1, 1, 0, 0, 0, 5, 0);
        x.say(true, 0, 6, 0, 1);
        due(x, 1, 1, 2, 0, 0, 0, 5, 1);
        x.hear(6);
        due(x, 1, 1, 2, 2, 0, 0, 6, 1);
        x.undo();
        due(x, 1, 1, 1, 1, 0, 0, 6, 0);
        Check.tell(x, HEAD + "page p a 1;");
        due(x, 1, 1, 0, 0, 1, 0, 199, 0);
        Check.tell(x, "bar 1 + 1;");
        due(x, 0, 0, 0, 0, 0, 3, 199, 0);
        x.tell(0);
        due(x, 0, 0, 0, 0, 0, 0, 199, 0);
    }

    private static void countMost() {
        Check.promise(32, "2 TALK LINES in all, 3 those HEARD");
        // Eight hundred bytes to the last one.
        String text = Check.each("thing ", 'a', 8, " 2is0;") + Check.each("teller ", 'a', 5, " 9begins0ends0;")
                + "ask a0a;".repeat(40) + "page a a0;".repeat(20) + "law1" + "+1".repeat(28) + ";";
        Check.due("bytes", text.length(), 800);
        SaidSo x = Check.told(text);
        for (int i = 0; i < 20; i++) {
            x.say(true, 0, 0, 0, 0);
        }
        due(x, 8, 5, 60, 60, 20, 57, 199, 20);
    }

    private static void countNone() {
        Check.promise(32, "NONE for another what.");
        SaidSo[] objects = {new SaidSo(), Check.told(HEAD + "say p 5 a 1;page p a 1;law 1;")};
        for (SaidSo x : objects) {
            for (int what : new int[] {-1, 8, 9, 100, MIN, MAX}) {
                Check.due("count(" + what + ")", x.count(what), -1);
            }
        }
    }
}
