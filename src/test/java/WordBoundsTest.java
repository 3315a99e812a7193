import java.math.BigInteger;

/** Boundary cases of '==== 2.': what a WORD is, and ODDS. */
final class WordBoundsTest {
    private static final int RIGHT = 1;
    private static final int FIRST = 2;
    private static final int LED = 4;
    private static final int PUBLIC = 8;
    private static final int OFF = 16;
    private static final int NEW = 32;
    private static final int CLEAN = 64;
    private static final String TALK = "teller p 9 begins 5 ends 9;teller q 9 begins 5 ends 9;";
    private static final String HEAD = "thing a 4 is 2;thing b 4 is 2;" + TALK;

    public static void main(String[] args) {
        right();
        first();
        led();
        published();
        off();
        offHours();
        isNew();
        clean();
        oddsToBegin();
        truth();
        cleanWordsOfOdds();
        factors();
        leastTerms();
        with();
        Check.end();
    }

    private static void bit(String text, int line, int bit, boolean want) {
        SaidSo x = Check.told(text);
        Check.due("bit " + bit + " of word(" + line + ") in '" + text + "'", (x.word(line) & bit) != 0, want);
    }

    private static void right() {
        Check.sentence("RIGHT: it is what IS.");
        for (int ways = 2; ways <= 9; ways++) {
            for (int is : new int[] {0, 1, ways - 1}) {
                for (int said = 0; said < ways; said++) {
                    bit("thing a " + ways + " is " + is + ";" + TALK + "say p 5 a " + said + ";", 0, RIGHT, said == is);
                }
            }
        }
        // Of its own thing.
        bit("thing a 4 is 2;thing b 4 is 1;" + TALK + "say p 5 a 1;", 0, RIGHT, false);
    }

    private static void first() {
        Check.sentence("FIRST: he said nothing of it ahead.");
        bit(HEAD + "say p 5 a 1;", 0, FIRST, true);
        bit(HEAD + "say p 5 a 1;say p 5 a 1;", 0, FIRST, true);
        bit(HEAD + "say p 5 a 1;say p 5 a 1;", 1, FIRST, false);
        bit(HEAD + "say p 5 a 1;say p 6 a 2;", 1, FIRST, false);
        bit(HEAD + "say p 5 b 1;say p 5 a 1;", 1, FIRST, true);
        bit(HEAD + "say q 5 a 1;say p 5 a 1;", 1, FIRST, true);
        bit(HEAD + "ask p 5 a 1;say p 5 a 1;", 1, FIRST, true);
        bit(HEAD + "say p 5 a 1;say q 5 a 1;say p 5 b 1;ask p 5 a;say p 9 a 1;", 4, FIRST, false);
        // At the first hour of all, too.
        String early = "thing a 4 is 2;teller p 9 begins 0 ends 9;";
        bit(early + "say p 0 a 1;", 0, FIRST, true);
        bit(early + "say p 0 a 1;say p 0 a 1;", 1, FIRST, false);
        bit(early + "say p 0 a 1;say p 9 a 1;", 1, FIRST, false);
        // The first of all lines and the last that there may be.
        SaidSo x = Check.told(HEAD);
        for (int i = 0; i < 60; i++) {
            x.say(true, 0, 5, 0, 1);
        }
        Check.due("word(0)", x.word(0), FIRST | CLEAN);
        Check.due("word(59)", x.word(59), 0);
    }

    private static void led() {
        Check.sentence("LED: an ask to him ahead of it PUT that VALUE of that THING.");
        bit(HEAD + "say p 5 a 1;", 0, LED, false);
        bit(HEAD + "ask p 5 a 1;say p 5 a 1;", 1, LED, true);
        bit(HEAD + "say p 5 a 1;ask p 5 a 1;", 0, LED, false);
        bit(HEAD + "ask p 5 a 0;say p 5 a 1;", 1, LED, false);
        bit(HEAD + "ask p 5 a 2;say p 5 a 1;", 1, LED, false);
        bit(HEAD + "ask p 5 a;say p 5 a 1;", 1, LED, false);
        bit(HEAD + "ask p 5 a;say p 5 a 0;", 1, LED, false);
        bit(HEAD + "ask p 5 a 0;say p 5 a 0;", 1, LED, true);
        bit(HEAD + "ask p 5 b 1;say p 5 a 1;", 1, LED, false);
        bit(HEAD + "ask q 5 a 1;say p 5 a 1;", 1, LED, false);
        bit(HEAD + "say p 5 a 1;say p 5 a 1;", 1, LED, false);
        bit("thing a 4 is 2;teller p 9 begins 0 ends 9;ask p 0 a 1;say p 0 a 1;", 1, LED, true);
        // Long ahead of it, with others in between; the right one too.
        bit(HEAD + "ask p 5 a 2;ask p 6 a 1;say p 7 a 1;ask p 8 a;say p 9 a 2;", 4, LED, true);
    }

    private static void published() {
        Check.sentence("PUBLIC: RIGHT, and in the PAPER by its HOUR.");
        for (int paper = 0; paper <= 9; paper++) {
            bit("thing a 4 is 2 paper " + paper + ";" + TALK + "say p 7 a 2;", 0, PUBLIC, paper <= 7);
            bit("thing a 4 is 2 paper " + paper + ";" + TALK + "say p 7 a 1;", 0, PUBLIC, false);
        }
        bit("thing a 4 is 2;" + TALK + "say p 7 a 2;", 0, PUBLIC, false);
        bit("thing a 4 is 2 police 0;" + TALK + "say p 7 a 2;", 0, PUBLIC, false);
        bit("thing a 4 is 2 paper 199;teller p 9 begins 0 ends 199;say p 199 a 2;", 0, PUBLIC, true);
        bit("thing a 4 is 2 paper 199;teller p 9 begins 0 ends 199;say p 198 a 2;", 0, PUBLIC, false);
        bit("thing a 4 is 2 paper 0;teller p 9 begins 0 ends 199;say p 0 a 2;", 0, PUBLIC, true);
        // A paper of another thing is none of this one.
        bit("thing b 4 is 2 paper 0;thing a 4 is 2;" + TALK + "say p 7 a 2;", 0, PUBLIC, false);
    }

    private static void off() {
        Check.sentence("OFF: RIGHT, and at some HOUR of his talk that wasn't on TAPE, not behind the WORD's, the POLICE knew the THING.");
        String police = "thing a 4 is 2 police 6;";
        // Never on tape: the word's own hour counts.
        bit(police + "teller p 9 begins 5 ends 9;say p 5 a 2;", 0, OFF, false);
        bit(police + "teller p 9 begins 5 ends 9;say p 6 a 2;", 0, OFF, true);
        bit(police + "teller p 9 begins 5 ends 9;say p 9 a 2;", 0, OFF, true);
        bit(police + "teller p 9 begins 5 ends 9;say p 9 a 1;", 0, OFF, false);
        // Taped from the hour on at which they knew it, or from the next.
        bit(police + "teller p 9 begins 5 ends 9 tape 6;say p 9 a 2;", 0, OFF, false);
        bit(police + "teller p 9 begins 5 ends 9 tape 7;say p 9 a 2;", 0, OFF, true);
        bit(police + "teller p 9 begins 5 ends 9 tape 7;say p 7 a 2;", 0, OFF, true);
        bit(police + "teller p 9 begins 5 ends 9 tape 7;say p 6 a 2;", 0, OFF, true);
        bit(police + "teller p 9 begins 5 ends 9 tape 7;say p 5 a 2;", 0, OFF, false);
        // All of it on tape: there is no such hour, however long they knew it.
        bit("thing a 4 is 2 police 0;teller p 9 begins 5 ends 9 tape 5;say p 9 a 2;", 0, OFF, false);
        bit("thing a 4 is 2 police 0;teller p 9 begins 5 ends 9 tape 6;say p 9 a 2;", 0, OFF, true);
        bit("thing a 4 is 2 police 0;teller p 9 begins 0 ends 9 tape 0;say p 0 a 2;", 0, OFF, false);
        bit("thing a 4 is 2 police 199;teller p 9 begins 0 ends 199;say p 199 a 2;", 0, OFF, true);
        // Never known, or in the paper alone.
        bit("thing a 4 is 2;teller p 9 begins 5 ends 9;say p 9 a 2;", 0, OFF, false);
        bit("thing a 4 is 2 paper 0;teller p 9 begins 5 ends 9;say p 9 a 2;", 0, OFF, false);
    }

    /** Every HOUR of a small talk gone through, for every TAPE, HOUR of the WORD and HOUR of the POLICE. */
    private static void offHours() {
        Check.sentence("at some HOUR of his talk that wasn't on TAPE, not behind the WORD's, the POLICE knew the THING");
        for (int tape = 4; tape <= 8; tape++) {
            for (int said = 5; said <= 8; said++) {
                for (int police = 3; police <= 9; police++) {
                    boolean off = false;
                    for (int hour = 5; hour <= 8; hour++) {
                        boolean taped = tape >= 5 && hour >= tape;
                        off |= !taped && hour <= said && police <= hour;
                    }
                    bit("thing a 4 is 2 police " + police + ";teller p 9 begins 5 ends 8" + (tape < 5 ? "" : " tape " + tape) + ";say p " + said + " a 2;", 0, OFF, off);
                }
            }
        }
    }

    private static void isNew() {
        Check.sentence("NEW: RIGHT, neither the POLICE nor the PAPER had it by its HOUR.");
        String[] sources = {"police", "paper"};
        for (String source : sources) {
            for (int hour = 0; hour <= 9; hour++) {
                bit("thing a 4 is 2 " + source + " " + hour + ";" + TALK + "say p 7 a 2;", 0, NEW, hour > 7);
                bit("thing a 4 is 2 " + source + " " + hour + ";" + TALK + "say p 7 a 1;", 0, NEW, false);
            }
        }
        bit("thing a 4 is 2;" + TALK + "say p 7 a 2;", 0, NEW, true);
        bit("thing a 4 is 2;" + TALK + "say p 7 a 1;", 0, NEW, false);
        bit("thing a 4 is 2 police 8 paper 8;" + TALK + "say p 7 a 2;", 0, NEW, true);
        bit("thing a 4 is 2 police 8 paper 7;" + TALK + "say p 7 a 2;", 0, NEW, false);
        bit("thing a 4 is 2 police 7 paper 8;" + TALK + "say p 7 a 2;", 0, NEW, false);
        // On tape or off it, said before or not.
        bit("thing a 4 is 2;teller p 9 begins 5 ends 9 tape 5;say p 5 a 2;say p 6 a 2;", 1, NEW, true);
    }

    private static void clean() {
        Check.sentence("CLEAN: FIRST, neither LED nor PUBLIC nor OFF.");
        for (int bits = 0; bits < 16; bits++) {
            boolean again = (bits & 1) != 0;
            boolean asked = (bits & 2) != 0;
            boolean printed = (bits & 4) != 0;
            boolean known = (bits & 8) != 0;
            String text = "thing a 4 is 2" + (printed ? " paper 5" : "") + (known ? " police 5" : "") + ";" + TALK
                    + (again ? "say p 5 a 0;" : "ask p 5 a;") + (asked ? "ask p 5 a 2;" : "ask p 5 a 3;") + "say p 6 a 2;";
            int want = RIGHT | (again ? 0 : FIRST) | (asked ? LED : 0) | (printed ? PUBLIC : 0) | (known ? OFF : 0)
                    | (printed || known ? 0 : NEW) | (bits == 0 ? CLEAN : 0);
            Check.due("word(2) of '" + text + "'", Check.told(text).word(2), want);
        }
        // Wrong ones are clean too, if they weren't led; and so is one that the police knew on tape alone.
        bit(HEAD + "say p 5 a 1;", 0, CLEAN, true);
        bit(HEAD + "ask p 5 a 1;say p 5 a 1;", 1, CLEAN, false);
        bit("thing a 4 is 2 police 0;teller p 9 begins 5 ends 9 tape 5;say p 5 a 2;", 0, CLEAN, true);
    }

    private static void odds(SaidSo x, int teller, int kind, long there, long not) {
        Check.due("odds(" + teller + ", " + kind + ", 0)", x.odds(teller, kind, 0), there);
        Check.due("odds(" + teller + ", " + kind + ", 1)", x.odds(teller, kind, 1), not);
    }

    private static void oddsToBegin() {
        Check.sentence("ODDS that a TELLER was there: to begin with (1 .. 99 to 1 .. 99; 1 to 1 at first)");
        SaidSo x = Check.told(HEAD);
        for (int kind = 0; kind < 3; kind++) {
            odds(x, 0, kind, 1, 1);
        }
        int[][] good = {{1, 99}, {99, 1}, {2, 99}, {98, 99}, {99, 98}, {1, 1}};
        for (int[] pair : good) {
            Check.due("begin(" + pair[0] + ", " + pair[1] + ")", x.begin(pair[0], pair[1]), true);
            for (int kind = 0; kind < 3; kind++) {
                odds(x, 1, kind, pair[0], pair[1]);
            }
        }
        x.begin(3, 7);
        int[][] bad = {{0, 1}, {1, 0}, {0, 0}, {100, 1}, {1, 100}, {100, 100}, {-1, 1}, {1, -1}, {1, Integer.MAX_VALUE}, {Integer.MIN_VALUE, 1}};
        for (int[] pair : bad) {
            Check.due("begin(" + pair[0] + ", " + pair[1] + ")", x.begin(pair[0], pair[1]), false);
            odds(x, 1, 0, 3, 7);
        }
    }

    private static void truth() {
        Check.sentence("TRUTH being a of 10 (1 .. 9; 9 at first)");
        SaidSo x = Check.told("thing a 7 is 2;" + TALK + "say p 5 a 2;say q 5 a 1;");
        odds(x, 0, 0, 63, 10);
        odds(x, 1, 0, 7, 60);
        Check.due("truth(0)", x.truth(0), false);
        Check.due("truth(10)", x.truth(10), false);
        odds(x, 0, 0, 63, 10);
        Check.due("truth(1)", x.truth(1), true);
        odds(x, 0, 0, 7, 10);
        odds(x, 1, 0, 21, 20);
        Check.due("truth(2)", x.truth(2), true);
        odds(x, 0, 0, 7, 5);
        Check.due("truth(8)", x.truth(8), true);
        odds(x, 0, 0, 28, 5);
        Check.due("truth(9)", x.truth(9), true);
        odds(x, 0, 0, 63, 10);
    }

    private static void cleanWordsOfOdds() {
        Check.sentence("for each CLEAN WORD");
        // None, one, and as many as there may be: one of each thing.
        SaidSo x = Check.told(HEAD);
        odds(x, 0, 0, 1, 1);
        x = Check.told(Check.each("thing ", 'a', 8, " 2 is 0;") + TALK);
        long there = 1;
        long not = 1;
        for (int thing = 0; thing < 8; thing++) {
            x.say(true, 0, 5, thing, 0);
            there *= 9;
            not *= 5;
            odds(x, 0, 0, there, not);
            odds(x, 1, 0, 1, 1);
        }
        x.say(true, 0, 5, 0, 0);
        odds(x, 0, 0, there, not);
        // One that was led, is public, or off counts for nothing, and neither does one that isn't heard.
        x = Check.told("thing a 2 is 0;thing b 2 is 0 paper 5;thing c 2 is 0 police 5;thing d 2 is 0;" + TALK
                + "ask p 5 a 0;say p 5 a 0;say p 5 b 0;say p 5 c 0;say p 6 d 0;");
        odds(x, 0, 0, 9, 5);
        x.hear(5);
        odds(x, 0, 0, 1, 1);
    }

    /** Every TRUTH, all WAYS, RIGHT or not: two words, worked out with numbers that have no bound. */
    private static void factors() {
        Check.sentence("RIGHT: times a WAYS by 10; else times (10 less a) WAYS by (10 times (WAYS less 1)).");
        for (int ways = 2; ways <= 9; ways++) {
            SaidSo x = Check.told("thing a " + ways + " is 1;thing b 9 is 0;" + TALK + "say p 5 a 1;say p 5 b 1;say q 5 a 0;say q 5 b 0;");
            for (int a = 1; a <= 9; a++) {
                x.truth(a);
                ratio(x, 0, (long) a * ways * (10 - a) * 9, 10L * 80);
                ratio(x, 1, (long) (10 - a) * ways * a * 9, 10L * (ways - 1) * 10);
            }
        }
    }

    private static void ratio(SaidSo x, int teller, long there, long not) {
        long shared = BigInteger.valueOf(there).gcd(BigInteger.valueOf(not)).longValue();
        odds(x, teller, 0, there / shared, not / shared);
    }

    private static void leastTerms() {
        Check.sentence("In least terms.");
        SaidSo x = Check.told(HEAD);
        int[][] pairs = {{99, 99, 1, 1}, {2, 4, 1, 2}, {98, 49, 2, 1}, {97, 89, 97, 89}, {1, 99, 1, 99}, {60, 84, 5, 7}};
        for (int[] p : pairs) {
            x.begin(p[0], p[1]);
            odds(x, 0, 0, p[2], p[3]);
        }
        // The odds to begin with are shortened by what the words are worth: 4 ways, 9 of 10: 18 to 5.
        x = Check.told(HEAD + "say p 5 a 2;");
        x.begin(5, 18);
        odds(x, 0, 0, 1, 1);
        x.begin(5, 9);
        odds(x, 0, 0, 2, 1);
        // The largest numbers that can come.
        x = Check.told(Check.each("thing ", 'a', 8, " 9 is 0;") + TALK + Check.each("say p 5 ", 'a', 8, " 0;") + Check.each("say q 5 ", 'a', 8, " 1;"));
        x.begin(99, 97);
        BigInteger top = BigInteger.valueOf(81).pow(8).multiply(BigInteger.valueOf(99));
        BigInteger low = BigInteger.TEN.pow(8).multiply(BigInteger.valueOf(97));
        odds(x, 0, 0, top.longValueExact(), low.longValueExact());
        x.truth(1);
        x.begin(97, 98);
        top = BigInteger.valueOf(81).pow(8).multiply(BigInteger.valueOf(97));
        low = BigInteger.valueOf(80).pow(8).multiply(BigInteger.valueOf(98));
        odds(x, 1, 0, top.longValueExact(), low.longValueExact());
    }

    private static void with() {
        Check.sentence("WITH: OFF ones are as if they weren't OFF.");
        String known = "thing a 4 is 2 police 5;";
        SaidSo x = Check.told(known + TALK + "say p 5 a 2;say q 5 a 1;");
        odds(x, 0, 0, 1, 1);
        odds(x, 0, 1, 18, 5);
        // None of them is off: the same both ways.
        odds(x, 1, 0, 2, 15);
        odds(x, 1, 1, 2, 15);
        // Off, and led, public or said before: still not clean.
        x = Check.told(known + TALK + "ask p 5 a 2;say p 5 a 2;say q 5 a 0;say q 5 a 2;");
        odds(x, 0, 1, 1, 1);
        odds(x, 1, 1, 2, 15);
        x = Check.told("thing a 4 is 2 police 5 paper 5;" + TALK + "say p 5 a 2;");
        odds(x, 0, 1, 1, 1);
        x = Check.told("thing a 4 is 2 police 5 paper 6;" + TALK + "say p 5 a 2;");
        odds(x, 0, 1, 18, 5);
    }
}
