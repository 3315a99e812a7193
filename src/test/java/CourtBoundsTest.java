import java.math.BigInteger;

/** Boundary cases of '==== 4.': LAW, DRAWS, NAMES, VALUES, ERROR, BAR, JURY, WHO, FOUND, WRONGED, FREED. */
final class CourtBoundsTest {
    private static final String TALK = "teller p 9 begins 5 ends 8;";
    private static final String HEAD = "thing a 4 is 2;" + TALK;
    private static final String MILLION = "100*100*100";
    private static final String[] NAMES = Model.NAMES.toArray(new String[0]);

    public static void main(String[] args) {
        law();
        numbers();
        seeds();
        belowLaw();
        latestPut();
        withoutPut();
        ofWays();
        inOrder();
        lawOfEach();
        asGood();
        hoursAtWord();
        offAtWord();
        asksAtWord();
        noneAtWord();
        hoursOfTalk();
        offOfTalk();
        linesOfTalk();
        pagesOfTalk();
        byPage();
        byTape();
        hoursOfTape();
        truths();
        quotients();
        byZero();
        limits();
        bothSides();
        barAndJury();
        who();
        Check.end();
    }

    private static int lawOf(String e) {
        return Check.told(HEAD + "say p 5 a 1;" + (e.isEmpty() ? "" : "law " + e + ";")).law(0);
    }

    private static void law() {
        Check.sentence("A LAW's E: of 100, how likely one who wasn't there says what was PUT (0 at least, 100 at most; 50 without a LAW or with an ERROR).");
        Check.due("without", lawOf(""), 50);
        Check.due("-1000000000000", lawOf("0-" + MILLION + "*" + MILLION), 0);
        Check.due("-2", lawOf("0-2"), 0);
        Check.due("-1", lawOf("0-1"), 0);
        Check.due("0", lawOf("0"), 0);
        Check.due("1", lawOf("1"), 1);
        Check.due("99", lawOf("99"), 99);
        Check.due("100", lawOf("100"), 100);
        Check.due("101", lawOf("101"), 100);
        Check.due("999", lawOf("999"), 100);
        // Values that an int would take for 7, or for one below 0.
        Check.due("4294967303", lawOf("512*512*512*32+7"), 100);
        Check.due("2147483648", lawOf("512*512*512*16"), 100);
        Check.due("-4294967303", lawOf("0-512*512*512*32-7"), 0);
        Check.due("1000000000000", lawOf(MILLION + "*" + MILLION), 100);
        Check.due("1000000000001", lawOf(MILLION + "*" + MILLION + "+1"), 50);
        Check.due("-1000000000001", lawOf("0-" + MILLION + "*" + MILLION + "-1"), 50);
        Check.due("by 0", lawOf("1/0"), 50);
        Check.due("by 0 at this word", lawOf("1/hours"), 50);
        SaidSo x = Check.told(HEAD + "say p 5 a 1;bar 7;jury 7;");
        Check.due("a bar and a jury are no law", x.law(0), 50);
        Check.tell(x, HEAD + "say p 5 a 1;law 7;");
        Check.due("a law", x.law(0), 7);
        Check.tell(x, HEAD + "say p 5 a 1;");
        Check.due("a text without one behind it", x.law(0), 50);
    }

    private static long next(long last) {
        return BigInteger.valueOf(last).multiply(BigInteger.valueOf(1103515245)).add(BigInteger.valueOf(12345))
                .mod(BigInteger.ONE.shiftLeft(31)).longValue();
    }

    private static void numbers() {
        Check.sentence("DRAWS: numbers are the last one (at first the seed) times 1103515245 and 12345, without what is above 31 bits.");
        SaidSo x = Check.told("thing a 9 is 4;" + TALK + "say p 5 a 4;");
        int[] seeds = {0, 1, 2, 12345, 65535, 65536, 1 << 30, (1 << 30) - 1, Integer.MAX_VALUE - 1, Integer.MAX_VALUE};
        for (int seed : seeds) {
            long last = seed;
            int good = 0;
            for (int many = 1; many <= 40; many++) {
                last = next(last);
                good += last / 65536 % 9 == 4 ? 1 : 0;
                Check.due("draws(0, " + seed + ", " + many + ")", x.draws(0, seed, many), good);
            }
        }
    }

    private static void seeds() {
        Check.sentence("(at first the seed)");
        // Each call begins with its own seed, however often others went ahead.
        SaidSo x = Check.told("thing a 9 is 4;" + TALK + "say p 5 a 4;");
        int first = x.draws(0, 77, 99);
        x.draws(0, 78, 99);
        x.draws(0, 79, 1);
        Check.due("draws(0, 77, 99)", x.draws(0, 77, 99), first);
    }

    /** The least seed from 0 on whose first number, by 65536 and modulo 100, is this. */
    private static int seedFor(int percent) {
        int seed = 0;
        while (next(seed) / 65536 % 100 != percent) {
            seed++;
        }
        return seed;
    }

    private static void belowLaw() {
        Check.sentence("if something of that THING was PUT to him ahead: a number comes: (by 65536, modulo 100) below LAW: he says the latest of these");
        for (int percent : new int[] {0, 1, 49, 50, 98, 99}) {
            int seed = seedFor(percent);
            long second = next(next(seed)) / 65536;
            // What was put is right; what he would say by chance is made wrong by the thing's being something else.
            int chance = (int) (second % 9);
            int put = chance == 0 ? 1 : 0;
            String head = "thing a 9 is " + put + ";" + TALK + "ask p 5 a " + put + ";say p 5 a " + put + ";law ";
            Check.due("law " + percent + " at " + percent, Check.told(head + percent + ";").draws(0, seed, 1), 0);
            Check.due("law " + (percent + 1) + " at " + percent, Check.told(head + (percent + 1) + ";").draws(0, seed, 1), 1);
            // And the other way about: what was put is wrong, what he would say by chance is right.
            head = "thing a 9 is " + chance + ";" + TALK + "ask p 5 a " + put + ";say p 5 a " + chance + ";law ";
            Check.due("law " + percent + " at " + percent, Check.told(head + percent + ";").draws(0, seed, 1), 1);
            Check.due("law " + (percent + 1) + " at " + percent, Check.told(head + (percent + 1) + ";").draws(0, seed, 1), 0);
        }
        Check.due("law 0: never", Check.told("thing a 2 is 1;" + TALK + "ask p 5 a 1;say p 5 a 1;law 0;").draws(0, 5, 99) < 99, true);
        Check.due("law 100: always", Check.told("thing a 2 is 1;" + TALK + "ask p 5 a 1;say p 5 a 1;law 100;").draws(0, 5, 99), 99);
        Check.due("law 100: always", Check.told("thing a 2 is 1;" + TALK + "ask p 5 a 0;say p 5 a 1;law 100;").draws(0, 5, 99), 0);
    }

    private static void latestPut() {
        Check.sentence("he says the latest of these");
        String head = "thing b 4 is 2;" + HEAD + "teller q 9 begins 5 ends 8;";
        Check.due("the second", Check.told(head + "ask p 5 a 1;ask p 5 a 2;say p 5 a 2;law 100;").draws(0, 1, 99), 99);
        Check.due("not the first", Check.told(head + "ask p 5 a 2;ask p 5 a 1;say p 5 a 2;law 100;").draws(0, 1, 99), 0);
        Check.due("an ask without one is none", Check.told(head + "ask p 5 a 2;ask p 5 a;say p 5 a 2;law 100;").draws(0, 1, 99), 99);
        Check.due("one of another thing is none", Check.told(head + "ask p 5 a 2;ask p 5 b 1;say p 5 a 2;law 100;").draws(0, 1, 99), 99);
        Check.due("one to another is none", Check.told(head + "ask p 5 a 2;ask q 5 a 1;say p 5 a 2;law 100;").draws(0, 1, 99), 99);
        Check.due("one behind it is none", Check.told(head + "ask p 5 a 2;say p 5 a 2;ask p 5 a 1;law 100;").draws(0, 1, 99), 99);
        Check.due("the least value", Check.told("thing a 4 is 0;" + TALK + "ask p 5 a 0;say p 5 a 0;law 100;").draws(0, 1, 99), 99);
    }

    /** How often a number modulo the WAYS is what IS, when each draw takes just one number. */
    private static int byChance(int ways, int is, int seed, int many) {
        long last = seed;
        int good = 0;
        for (int i = 0; i < many; i++) {
            last = next(last);
            good += last / 65536 % ways == is ? 1 : 0;
        }
        return good;
    }

    private static void withoutPut() {
        Check.sentence("else, or without one: a number: (by 65536, modulo WAYS)");
        // No number comes for the LAW where nothing was put.
        String[] texts = {"say p 5 a 2;", "ask p 5 a;say p 5 a 2;", "ask p 5 b 2;say p 5 a 2;", "say p 5 a 2;ask p 5 a 2;", "ask q 5 a 2;say p 5 a 2;"};
        for (String text : texts) {
            SaidSo x = Check.told("thing a 4 is 2;thing b 4 is 1;" + TALK + "teller q 9 begins 5 ends 8;" + text + "law 100;");
            Check.due("draws of '" + text + "'", x.draws(0, 9, 99), byChance(4, 2, 9, 99));
        }
        // Where something was put, two numbers come if the first isn't below the LAW.
        long last = 9;
        int good = 0;
        for (int i = 0; i < 99; i++) {
            last = next(next(last));
            good += last / 65536 % 4 == 2 ? 1 : 0;
        }
        Check.due("law 0", Check.told(HEAD + "ask p 5 a 2;say p 5 a 2;law 0;").draws(0, 9, 99), good);
    }

    private static void ofWays() {
        Check.sentence("a number: (by 65536, modulo WAYS)");
        for (int ways = 2; ways <= 9; ways++) {
            for (int is : new int[] {0, ways - 1}) {
                SaidSo x = Check.told("thing a " + ways + " is " + is + ";" + TALK + "say p 5 a " + is + ";");
                Check.due("ways " + ways + ", is " + is, x.draws(0, 3, 99), byChance(ways, is, 3, 99));
            }
        }
    }

    private static void inOrder() {
        Check.sentence("In a draw, for each FIRST WORD of a TELLER, in order");
        // The second thing is told first; another's words and a word that isn't first take no number.
        SaidSo x = Check.told("thing a 3 is 1;thing b 7 is 2;" + TALK + "teller q 9 begins 5 ends 8;ask p 5 a 1;"
                + "say p 5 b 2;say q 5 a 1;say p 6 b 2;say q 6 b 2;say p 6 a 1;say p 7 a 0;law 40;");
        for (int right = 2; right >= 1; right--) {
            long last = 23;
            int good = 0;
            for (int many = 1; many <= 99; many++) {
                last = next(last);
                int drawn = last / 65536 % 7 == 2 ? 1 : 0;
                if (right == 2) {
                    last = next(last);
                    boolean follows = last / 65536 % 100 < 40;
                    last = follows ? last : next(last);
                    drawn += follows || last / 65536 % 3 == 1 ? 1 : 0;
                }
                good += drawn >= right ? 1 : 0;
                Check.due("draws(0, 23, " + many + ")", x.draws(0, 23, many), good);
            }
            // Then the word of a isn't heard any more, which leaves one.
            x.hear(5);
        }
    }

    private static void lawOfEach() {
        Check.sentence("below LAW");
        // At hours 5 to 8 the law is 0, 30, 60 and 90; two of the four words are right, two of the values put are.
        SaidSo x = Check.told(Check.each("thing ", 'a', 4, " 9 is 3;") + TALK
                + "ask p 5 a 3;say p 5 a 1;ask p 6 b 4;say p 6 b 3;ask p 7 c 3;say p 7 c 5;ask p 8 d 2;say p 8 d 3;law hours * 30;");
        int[] put = {3, 4, 3, 2};
        int[] had = {0, 1, 1, 2};
        for (int words = 1; words <= 4; words++) {
            x.hear(4 + words);
            long last = 31;
            int good = 0;
            for (int many = 1; many <= 99; many++) {
                int drawn = 0;
                for (int i = 0; i < words; i++) {
                    last = next(last);
                    boolean follows = last / 65536 % 100 < i * 30;
                    last = follows ? last : next(last);
                    drawn += (follows ? put[i] : last / 65536 % 9) == 3 ? 1 : 0;
                }
                good += drawn >= had[words - 1] ? 1 : 0;
                Check.due(words + " words, draws(0, 31, " + many + ")", x.draws(0, 31, many), good);
            }
        }
    }

    private static void asGood() {
        Check.sentence("He is as good in a draw with as many RIGHT as he had in FIRST WORDS.");
        String things = Check.each("thing ", 'a', 8, " 2 is 1;");
        // None said, none right, one, and as many as there may be, worked out number by number.
        for (int words = 0; words <= 8; words++) {
            for (int right = 0; right <= words; right++) {
                SaidSo x = Check.told(things + TALK);
                for (int i = 0; i < words; i++) {
                    x.say(true, 0, 5, i, i < right ? 1 : 0);
                    // A second word isn't first, right or wrong.
                    x.say(true, 0, 5, i, i < right ? 0 : 1);
                }
                long last = 11;
                int good = 0;
                for (int draw = 0; draw < 30; draw++) {
                    int drawn = 0;
                    for (int i = 0; i < words; i++) {
                        last = next(last);
                        drawn += last / 65536 % 2 == 1 ? 1 : 0;
                    }
                    good += drawn >= right ? 1 : 0;
                }
                Check.due(words + " words, " + right + " right", x.draws(0, 11, 30), good);
            }
        }
        SaidSo x = Check.told(HEAD + "say p 6 a 2;");
        x.hear(5);
        Check.due("nothing heard", x.draws(0, 11, 30), 30);
        // A word at the first hour of all is first, and none behind it.
        x = Check.told("thing a 4 is 2;teller p 9 begins 0 ends 9;say p 0 a 2;say p 0 a 1;say p 9 a 1;");
        Check.due("one first word", x.draws(0, 11, 99), byChance(4, 2, 11, 99));
    }

    private static int atWord(String name, String talk, String lines, int line) {
        return Check.told("thing a 4 is 2;thing b 4 is 2;" + talk + "teller q 9 begins 0 ends 199;" + lines + "law " + name + ";").law(line);
    }

    private static void hoursAtWord() {
        Check.sentence("Names at a WORD (for LAW): age; hours: its HOUR less that at which the talk begins");
        Check.due("age 1", atWord("age", "teller p 1 begins 5 ends 8;", "say p 5 a 1;", 0), 1);
        Check.due("age 99", atWord("age", "teller p 99 begins 5 ends 8;", "say p 5 a 1;", 0), 99);
        for (int hour = 5; hour <= 8; hour++) {
            Check.due("hours at " + hour, atWord("hours", "teller p 9 begins 5 ends 8 tape 6;", "say p " + hour + " a 1;", 0), hour - 5);
        }
        Check.due("hours", atWord("hours", "teller p 9 begins 0 ends 0;", "say p 0 a 1;", 0), 0);
        Check.due("hours less 150", atWord("hours-150", "teller p 9 begins 0 ends 199;", "say p 199 a 1;", 0), 49);
    }

    private static void offAtWord() {
        Check.sentence("off: HOURS of the talk by then that weren't on TAPE");
        for (int tape = 4; tape <= 8; tape++) {
            String talk = "teller p 9 begins 5 ends 8" + (tape < 5 ? "" : " tape " + tape) + ";";
            for (int hour = 5; hour <= 8; hour++) {
                int off = 0;
                for (int h = 5; h <= hour; h++) {
                    off += tape < 5 || h < tape ? 1 : 0;
                }
                Check.due("off at " + hour + " of '" + talk + "'", atWord("off", talk, "say p " + hour + " a 1;", 0), off);
            }
        }
        Check.due("the whole day, never taped", atWord("off-150", "teller p 9 begins 0 ends 199;", "say p 199 a 1;", 0), 50);
        Check.due("the whole day, taped at last", atWord("off-150", "teller p 9 begins 0 ends 199 tape 199;", "say p 199 a 1;", 0), 49);
        Check.due("the whole day, taped", atWord("off", "teller p 9 begins 0 ends 199 tape 0;", "say p 199 a 1;", 0), 0);
    }

    private static void asksAtWord() {
        Check.sentence("asks: to him ahead of it; led: of these with something PUT");
        String[] lines = {"say p 5 a 1;", "ask p 5 a;say p 5 a 1;", "ask p 5 a 1;say p 5 a 1;", "ask p 5 a 0;say p 5 a 1;", "ask p 5 b 3;say p 5 a 1;",
            "ask q 5 a 1;say p 5 a 1;", "say p 5 a 1;ask p 5 a 1;", "ask p 5 a;ask p 5 a 1;ask p 6 b;ask p 6 b 0;say p 7 a 1;"};
        int[] line = {0, 1, 1, 1, 1, 1, 0, 4};
        int[] asks = {0, 1, 1, 1, 1, 0, 0, 4};
        int[] led = {0, 0, 1, 1, 1, 0, 0, 2};
        for (int i = 0; i < lines.length; i++) {
            Check.due("asks of '" + lines[i] + "'", atWord("asks", TALK, lines[i], line[i]), asks[i]);
            Check.due("led of '" + lines[i] + "'", atWord("led", TALK, lines[i], line[i]), led[i]);
        }
        // As many as there may be ahead of a word.
        SaidSo x = Check.told(HEAD + "law asks;");
        SaidSo y = Check.told(HEAD + "law led;");
        for (int i = 0; i < 59; i++) {
            x.say(false, 0, 5, 0, -1);
            y.say(false, 0, 5, 0, 3);
        }
        x.say(true, 0, 5, 0, 1);
        y.say(true, 0, 5, 0, 1);
        Check.due("59 asks", x.law(59), 59);
        Check.due("59 with something put", y.law(59), 59);
    }

    private static void noneAtWord() {
        Check.sentence("right, wrong, new, put, lines 0.");
        String lines = "say p 5 a 2;say p 6 b 1;page p a 2;page p a 1;page p b 3;";
        for (String name : new String[] {"right", "wrong", "new", "put", "lines"}) {
            Check.due(name, atWord(name, TALK, lines, 1), 0);
        }
    }

    /** Held against each NAME in turn: for BAR, and for JURY by one of the three. */
    private static void names(String text, int by, int hear, int... want) {
        for (int i = 0; i < NAMES.length; i++) {
            SaidSo x = Check.told(text + "jury " + NAMES[i] + "=" + want[i] + ";bar " + NAMES[i] + "=" + want[i] + ";");
            x.hear(hear);
            Check.due(NAMES[i] + " is " + want[i] + " by " + by + ", heard up to " + hear + ", of '" + text + "'", x.jury(0, by), 1);
            if (by == 2) {
                Check.due(NAMES[i] + " is " + want[i] + " for bar, heard up to " + hear + ", of '" + text + "'", x.barred(0), 1);
            }
        }
    }

    private static void hoursOfTalk() {
        Check.sentence("Of a talk (for BAR, JURY by BOTH): age; hours: from its begin to its end");
        names("teller p 1 begins 7 ends 7;", 2, 199, 1, 0, 1, 0, 0, 0, 0, 0, 0, 0);
        names("teller p 99 begins 7 ends 8;", 2, 199, 99, 1, 2, 0, 0, 0, 0, 0, 0, 0);
        names("teller p 50 begins 0 ends 199;", 2, 0, 50, 199, 200, 0, 0, 0, 0, 0, 0, 0);
    }

    private static void offOfTalk() {
        Check.sentence("off: its HOURS (both ends with them) that weren't on TAPE");
        names("teller p 9 begins 5 ends 8;", 2, 199, 9, 3, 4, 0, 0, 0, 0, 0, 0, 0);
        for (int tape = 5; tape <= 8; tape++) {
            names("teller p 9 begins 5 ends 8 tape " + tape + ";", 2, 199, 9, 3, tape - 5, 0, 0, 0, 0, 0, 0, 0);
        }
        names("teller p 9 begins 0 ends 0 tape 0;", 2, 199, 9, 0, 0, 0, 0, 0, 0, 0, 0, 0);
        names("teller p 9 begins 0 ends 199 tape 199;", 2, 199, 9, 199, 199, 0, 0, 0, 0, 0, 0, 0);
    }

    private static void linesOfTalk() {
        Check.sentence("asks, led of all HEARD; right, wrong, new: FIRST WORDS");
        String text = "thing a 4 is 2;thing b 4 is 1 police 6;thing c 4 is 0 paper 8;" + TALK + "teller q 9 begins 5 ends 8;"
                + "ask p 5 a;ask q 5 a 1;say p 5 a 2;ask p 6 b 0;say p 6 b 0;say q 6 c 0;say p 7 b 1;say p 7 c 0;say p 8 a 1;ask p 8 c 3;";
        names(text, 2, 4, 9, 3, 4, 0, 0, 0, 0, 0, 0, 0);
        names(text, 2, 5, 9, 3, 4, 1, 0, 1, 0, 1, 0, 0);
        names(text, 2, 6, 9, 3, 4, 2, 1, 1, 1, 1, 0, 0);
        names(text, 2, 7, 9, 3, 4, 2, 1, 2, 1, 2, 0, 0);
        names(text, 2, 8, 9, 3, 4, 3, 2, 2, 1, 2, 0, 0);
        // At the first hour of all.
        names("thing a 4 is 2;teller p 9 begins 0 ends 9;ask p 0 a 2;say p 0 a 2;say p 0 a 1;", 2, 0, 9, 9, 10, 1, 1, 1, 0, 1, 0, 0);
        names("thing a 4 is 2;teller p 9 begins 0 ends 9;ask p 0 a 2;say p 0 a 2;say p 9 a 1;", 2, 199, 9, 9, 10, 1, 1, 1, 0, 1, 0, 0);
        // Right, but known to the police or in the paper by then: not new.
        names("thing a 4 is 2 police 5;" + TALK + "say p 5 a 2;", 2, 199, 9, 3, 4, 0, 0, 1, 0, 0, 0, 0);
        names("thing a 4 is 2 paper 5;" + TALK + "say p 5 a 2;", 2, 199, 9, 3, 4, 0, 0, 1, 0, 0, 0, 0);
        names("thing a 4 is 2 police 6 paper 6;" + TALK + "say p 5 a 2;", 2, 199, 9, 3, 4, 0, 0, 1, 0, 1, 0, 0);
    }

    private static void pagesOfTalk() {
        Check.sentence("put: PAGE LINES of his that are PUT or MENDED; lines: PAGE LINES of his.");
        String head = "thing b 4 is 1;" + HEAD + "teller q 9 begins 5 ends 8;";
        names(head + "page q a 1;", 2, 199, 9, 3, 4, 0, 0, 0, 0, 0, 0, 0);
        names(head + "page p a 1;", 2, 199, 9, 3, 4, 0, 0, 0, 0, 0, 1, 1);
        names(head + "page p a 1;say p 5 a 1;", 2, 199, 9, 3, 4, 0, 0, 0, 1, 0, 0, 1);
        names(head + "page p a 1;say p 5 a 1;say p 5 a 3;", 2, 199, 9, 3, 4, 0, 0, 0, 1, 0, 0, 1);
        names(head + "page p a 1;say p 5 a 0;", 2, 199, 9, 3, 4, 0, 0, 0, 1, 0, 1, 1);
        // One each: as said, turned, mended, put.
        names(head + "say p 5 a 1;say p 5 a 0;page p a 0;page p a 1;page p a 3;page p b 1;page q b 1;", 2, 199, 9, 3, 4, 0, 0, 0, 1, 0, 2, 4);
        names(head + "say p 5 a 1;say p 5 a 0;page p a 0;page p a 1;page p a 3;page p b 1;page q b 1;", 2, 4, 9, 3, 4, 0, 0, 0, 0, 0, 4, 4);
        names(HEAD + "page p a 1;".repeat(20), 2, 199, 9, 3, 4, 0, 0, 0, 0, 0, 20, 20);
    }

    private static void byPage() {
        Check.sentence("JURY by the PAGE: age; right, wrong: of his first PAGE LINES of THINGS; lines; all else 0.");
        String head = "thing b 4 is 1;" + HEAD + "teller q 9 begins 5 ends 8;ask p 5 a 1;say p 5 a 2;say p 6 b 0;";
        names(head, 0, 199, 9, 0, 0, 0, 0, 0, 0, 0, 0, 0);
        names(head + "page q a 2;", 0, 199, 9, 0, 0, 0, 0, 0, 0, 0, 0, 0);
        names(head + "page p a 2;", 0, 199, 9, 0, 0, 0, 0, 1, 0, 0, 0, 1);
        names(head + "page p a 3;", 0, 199, 9, 0, 0, 0, 0, 0, 1, 0, 0, 1);
        names(head + "page p a 2;page p a 3;", 0, 199, 9, 0, 0, 0, 0, 1, 0, 0, 0, 2);
        names(head + "page p a 3;page p a 2;", 0, 199, 9, 0, 0, 0, 0, 0, 1, 0, 0, 2);
        names(head + "page q a 3;page p a 2;page q b 3;page p b 0;", 0, 199, 9, 0, 0, 0, 0, 1, 1, 0, 0, 2);
        names(head + "page p a 2;page p b 1;", 0, 0, 9, 0, 0, 0, 0, 2, 0, 0, 0, 2);
        names(HEAD + "page p a 2;".repeat(20), 0, 199, 9, 0, 0, 0, 0, 1, 0, 0, 0, 20);
    }

    private static void byTape() {
        Check.sentence("By the TAPE: as by BOTH of HEARD LINES on TAPE alone (FIRST there)");
        String head = "thing a 4 is 2;thing b 4 is 1 police 6;teller p 9 begins 5 ends 8 tape 7;teller q 9 begins 5 ends 8 tape 5;";
        names(head, 1, 199, 9, 1, 0, 0, 0, 0, 0, 0, 0, 0);
        // The hour ahead of the tape and the hour of it.
        names(head + "ask p 6 a 2;say p 6 a 2;", 1, 199, 9, 1, 0, 0, 0, 0, 0, 0, 0, 0);
        names(head + "ask p 7 a 2;say p 7 a 2;", 1, 199, 9, 1, 0, 1, 1, 1, 0, 1, 0, 0);
        names(head + "ask p 7 a 2;say p 7 a 2;", 1, 6, 9, 1, 0, 0, 0, 0, 0, 0, 0, 0);
        // First on tape, though said ahead of it.
        names(head + "say p 6 a 1;say p 7 a 2;", 1, 199, 9, 1, 0, 0, 0, 1, 0, 1, 0, 0);
        names(head + "say p 6 a 2;say p 7 a 1;", 1, 199, 9, 1, 0, 0, 0, 0, 1, 0, 0, 0);
        names(head + "say p 7 a 1;say p 7 a 2;", 1, 199, 9, 1, 0, 0, 0, 0, 1, 0, 0, 0);
        names(head + "say p 7 b 1;", 1, 199, 9, 1, 0, 0, 0, 1, 0, 0, 0, 0);
        names(head + "ask q 7 a 2;say q 7 a 2;", 1, 199, 9, 1, 0, 0, 0, 0, 0, 0, 0, 0);
        names(head + "ask p 7 a;say p 8 a 0;page p a 0;page p a 2;", 1, 199, 9, 1, 0, 1, 0, 0, 1, 0, 0, 0);
        names(head + "ask p 7 a;say p 8 a 0;page p a 0;page p a 2;", 1, 7, 9, 1, 0, 1, 0, 0, 0, 0, 0, 0);
        // Never taped: no line is on tape.
        names(HEAD + "ask p 5 a 2;say p 8 a 2;page p a 2;", 1, 199, 9, 0, 0, 0, 0, 0, 0, 0, 0, 0);
    }

    private static void hoursOfTape() {
        Check.sentence("hours: from TAPE to the end (0 without); off, put, lines 0.");
        names("teller p 9 begins 5 ends 8;", 1, 199, 9, 0, 0, 0, 0, 0, 0, 0, 0, 0);
        for (int tape = 5; tape <= 8; tape++) {
            names("teller p 9 begins 5 ends 8 tape " + tape + ";", 1, 199, 9, 8 - tape, 0, 0, 0, 0, 0, 0, 0, 0);
        }
        names("teller p 9 begins 0 ends 199 tape 0;", 1, 199, 9, 199, 0, 0, 0, 0, 0, 0, 0, 0);
        names("teller p 9 begins 0 ends 0 tape 0;", 1, 199, 9, 0, 0, 0, 0, 0, 0, 0, 0, 0);
    }

    private static void worth(String e, int want) {
        String number = want < 0 ? "0-" + -want : "" + want;
        Check.due(e + " is " + want, Check.told(TALK + "jury (" + e + ")=" + number + ";").jury(0, 2), 1);
    }

    private static void truths() {
        Check.sentence("VALUES are longs; comparisons, and, or, not are 1 or 0 (what isn't 0 is as 1, both sides are worked out)");
        String[] signs = {"<", "<=", "=", "<>", ">=", ">"};
        int[][] want = {{1, 0, 0}, {1, 1, 0}, {0, 1, 0}, {1, 0, 1}, {0, 1, 1}, {0, 0, 1}};
        String[][] pairs = {{"1", "2"}, {"2", "2"}, {"3", "2"}};
        String[][] below = {{"(0-3)", "(0-2)"}, {"(0-2)", "(0-2)"}, {"0", "(0-1)"}};
        for (int i = 0; i < signs.length; i++) {
            for (int j = 0; j < 3; j++) {
                worth(pairs[j][0] + signs[i] + pairs[j][1], want[i][j]);
                worth(below[j][0] + signs[i] + below[j][1], want[i][j]);
            }
        }
        // Differences that no int holds.
        worth("512*512*512*32>0", 1);
        worth("512*512*512*16>0", 1);
        worth("512*512*512*32=0", 0);
        String[] values = {"0", "1", "2", "(0-1)", "(512*512*512*32)"};
        for (String a : values) {
            worth("not " + a, a.equals("0") ? 1 : 0);
            for (String b : values) {
                worth(a + " and " + b, a.equals("0") || b.equals("0") ? 0 : 1);
                worth(a + " or " + b, a.equals("0") && b.equals("0") ? 0 : 1);
            }
        }
        worth("512*512*512*32-512*512*512*32+7", 7);
        for (int a = -3; a <= 3; a++) {
            for (int b = -3; b <= 3; b++) {
                String pair = (a < 0 ? "(0-" + -a + ")" : "" + a) + "%" + (b < 0 ? "(0-" + -b + ")" : "" + b);
                worth(pair.replace('%', '*'), a * b);
                worth(pair.replace('%', '+'), a + b);
                worth(pair.replace('%', '-'), a - b);
            }
        }
    }

    private static void quotients() {
        Check.sentence("/ is cut towards 0");
        for (int a = -5; a <= 5; a++) {
            for (int b = -3; b <= 3; b++) {
                if (b != 0) {
                    int size = Math.abs(a) / Math.abs(b);
                    worth("(" + (a < 0 ? "0-" : "") + Math.abs(a) + ")/(" + (b < 0 ? "0-" : "") + Math.abs(b) + ")", (a < 0) == (b < 0) ? size : -size);
                }
            }
        }
        worth("999/(999+1)", 0);
        worth("(0-999)/(999+1)", 0);
    }

    private static int jury(String e) {
        return Check.told(TALK + "jury " + e + ";").jury(0, 2);
    }

    private static void byZero() {
        Check.sentence("ERROR: / by 0");
        Check.due("1/1", jury("1/1"), 1);
        Check.due("1/0", jury("1/0"), 0);
        Check.due("0/0", jury("0/0"), 0);
        Check.due("not 0/1", jury("not 0/1"), 1);
        Check.due("not 0/0", jury("not 0/0"), 0);
        Check.due("1/(1-1)", jury("1/(1-1)"), 0);
        Check.due("1/asks", jury("1/asks"), 0);
        Check.due("1/(0-1)", jury("1/(0-1)"), 1);
        Check.due("1+1/0", jury("1+1/0"), 0);
        Check.due("1/0*0=0", jury("1/0*0=0"), 0);
        Check.due("1/0<>5", jury("1/0<>5"), 0);
    }

    private static void limits() {
        Check.sentence("a value above 10 to the 12 or below 0 by more than that");
        String most = MILLION + "*" + MILLION;
        Check.due("10^12-1", jury(most + "-1"), 1);
        Check.due("10^12", jury(most), 1);
        Check.due("10^12+1", jury(most + "+1"), 0);
        Check.due("-10^12+1", jury("1-" + most), 1);
        Check.due("-10^12", jury("0-" + most), 1);
        Check.due("-10^12-1", jury("0-" + most + "-1"), 0);
        Check.due("-10^12-1", jury("0-1-" + most), 0);
        // By a product, just below the limit and above it.
        Check.due("(10^6-1)(10^6+1)", jury("(" + MILLION + "-1)*(" + MILLION + "+1)"), 1);
        Check.due("(10^6)(10^6+1)", jury("(" + MILLION + ")*(" + MILLION + "+1)"), 0);
        Check.due("-(10^6)(10^6)", jury("(0-" + MILLION + ")*(" + MILLION + ")"), 1);
        Check.due("-(10^6)(10^6+1)", jury("(0-" + MILLION + ")*(" + MILLION + "+1)"), 0);
        Check.due("(10^6)(-10^6-1)", jury("(" + MILLION + ")*(0-" + MILLION + "-1)"), 0);
        Check.due("(-10^6)(-10^6-1)", jury("(0-" + MILLION + ")*(0-" + MILLION + "-1)"), 0);
        Check.due("(-10^6)(-10^6)", jury("(0-" + MILLION + ")*(0-" + MILLION + ")"), 1);
        // A value that is too large ahead of one that isn't, and products that a long would take for 0 or for less.
        Check.due("10^12+1-1", jury(most + "+1-1"), 0);
        Check.due("(10^12+1)*0=0", jury("(" + most + "+1)*0=0"), 0);
        Check.due("10^12*0=0", jury(most + "*0=0"), 1);
        Check.due("0*10^12=0", jury("0*(" + most + ")=0"), 1);
        Check.due("2^32*2^32=0", jury("(512*512*512*32)*(512*512*512*32)=0"), 0);
        Check.due("2^32*2^31<0", jury("(512*512*512*32)*(512*512*512*16)<0"), 0);
        Check.due("2^39*2^25=0", jury("(512*512*512*512*8)*(512*512*128)=0"), 0);
        Check.due("2^25*2^39=0", jury("(512*512*128)*(512*512*512*512*8)=0"), 0);
        Check.due("10^12*10^12<>0", jury("(" + most + ")*(" + most + ")<>0"), 0);
        Check.due("10^12*-10^12<>0", jury("(" + most + ")*(0-" + most + ")<>0"), 0);
        Check.due("not (10^12+1)", jury("not (" + most + "+1)"), 0);
        Check.due("10^12/10^12", jury("(" + most + ")/(" + most + ")=1"), 1);
        Check.due("10^12+10^12", jury(most + "+" + most), 0);
        Check.due("0-10^12-10^12", jury("0-" + most + "-" + most), 0);
    }

    private static void bothSides() {
        Check.sentence("both sides are worked out");
        Check.due("1 or 1/0", jury("1 or 1/0"), 0);
        Check.due("1/0 or 1", jury("1/0 or 1"), 0);
        Check.due("not (0 and 1/0)", jury("not (0 and 1/0)"), 0);
        Check.due("not (1/0 and 0)", jury("not (1/0 and 0)"), 0);
        Check.due("1 or 0 and 1/0", jury("1 or 0 and 1/0"), 0);
        Check.due("1 or 10^12+1", jury("1 or " + MILLION + "*" + MILLION + "+1"), 0);
        Check.due("1 or 0/1", jury("1 or 0/1"), 1);
    }

    private static int barred(String e) {
        return Check.told(TALK + e).barred(0);
    }

    private static void barAndJury() {
        Check.sentence("BAR, JURY: whether E isn't 0 (not with an ERROR or without such a LINE).");
        Check.due("no bar", barred("law 1;jury 1;"), 0);
        Check.due("bar 0", barred("bar 0;"), 0);
        Check.due("bar 1", barred("bar 1;"), 1);
        Check.due("bar 2", barred("bar 2;"), 1);
        Check.due("bar -1", barred("bar 0-1;"), 1);
        Check.due("bar 2^32", barred("bar 512*512*512*32;"), 1);
        Check.due("bar with an error", barred("bar 1/0;"), 0);
        for (int by = 0; by < 3; by++) {
            Check.due("no jury", Check.told(TALK + "law 1;bar 1;").jury(0, by), 0);
            Check.due("jury 0", Check.told(TALK + "jury 0;").jury(0, by), 0);
            Check.due("jury 1", Check.told(TALK + "jury 1;").jury(0, by), 1);
            Check.due("jury 2", Check.told(TALK + "jury 2;").jury(0, by), 1);
            Check.due("jury -1", Check.told(TALK + "jury 0-1;").jury(0, by), 1);
            Check.due("jury 2^32", Check.told(TALK + "jury 512*512*512*32;").jury(0, by), 1);
            Check.due("jury with an error", Check.told(TALK + "jury 1/0;").jury(0, by), 0);
        }
        SaidSo x = Check.told(TALK + "bar 1;jury 1;");
        Check.tell(x, TALK);
        Check.due("a text without a bar behind it", x.barred(0), 0);
        Check.due("a text without a jury behind it", x.jury(0, 2), 0);
    }

    private static void who() {
        Check.sentence("WHO was there is told (bits of TELLERS). FOUND is whom JURY finds so and whose talk isn't BARRED. WRONGED: TELLERS that weren't there but are FOUND; FREED: those that were but aren't FOUND.");
        // Ages 1 to 4: neither, found by the jury, barred, both.
        String text = "teller p 1 begins 0 ends 0;teller q 2 begins 0 ends 0;teller r 3 begins 0 ends 0;teller s 4 begins 0 ends 0;"
                + "jury age=2 or age=4;bar age>=3;";
        SaidSo x = Check.told(text);
        int found = 2;
        for (int who = 0; who < 16; who++) {
            Check.due("there(" + who + ")", x.there(who), Integer.bitCount(who));
            for (int by = 0; by < 3; by++) {
                Check.due("wronged, " + who + " there", x.found(by, 0), found & ~who);
                Check.due("freed, " + who + " there", x.found(by, 1), who & ~found);
            }
        }
        Check.due("nobody to find", Check.told("jury 1;").found(2, 0), 0);
        // A talk is barred by all that is known of it, whoever hears the jury.
        x = Check.told(HEAD + "say p 5 a 2;page p a 1;jury 1;bar hours=3 and right=1 and put=1;");
        for (int by = 0; by < 3; by++) {
            Check.due("barred by both", x.found(by, 0), 0);
        }
        x.hear(4);
        for (int by = 0; by < 3; by++) {
            Check.due("not barred", x.found(by, 0), 1);
        }
    }
}
