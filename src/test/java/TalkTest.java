/** Promises 6 to 14: look, teller, line, say, undo, hear, word, led, words. */
final class TalkTest {
    private static final int RIGHT = 1;
    private static final int FIRST = 2;
    private static final int LED = 4;
    private static final int PUBLIC = 8;
    private static final int OFF = 16;
    private static final int NEW = 32;
    private static final int CLEAN = 64;

    public static void main(String[] args) {
        looking();
        tellers();
        lines();
        saying();
        undoing();
        hearing();
        publicWords();
        offWords();
        ledWords();
        firstWords();
        countedWords();
        Check.end();
    }

    private static void looking() {
        SaidSo x = Check.told("thing a 4 is 2;thing b 9 is 8 police 3 paper 7;");
        long[] a = {4, 2, -1, -1};
        long[] b = {9, 8, 7, 3};
        for (int what = 0; what < 4; what++) {
            Check.due("look(0, " + what + ")", x.look(0, what), a[what]);
            Check.due("look(1, " + what + ")", x.look(1, what), b[what]);
        }
        Check.due("look(2, 0)", Check.looked(x, 2, 0), -10);
        Check.due("look(-1, 0)", Check.looked(x, -1, 0), -10);
        Check.due("look(-1, 9)", Check.looked(x, -1, 9), -10);
        Check.due("look(0, 4)", Check.looked(x, 0, 4), -11);
        Check.due("look(0, -1)", Check.looked(x, 0, -1), -11);
        Check.due("look(0, 0) of a new object", Check.looked(new SaidSo(), 0, 0), -10);
    }

    private static void tellers() {
        SaidSo x = Check.told("teller p 9 begins 5 ends 8;teller q 99 begins 0 ends 199 tape 0;");
        long[] p = {9, 5, 8, -1, -1};
        long[] q = {99, 0, 199, 0, -1};
        for (int what = 0; what < 5; what++) {
            Check.due("teller(0, " + what + ")", x.teller(0, what), p[what]);
            Check.due("teller(1, " + what + ")", x.teller(1, what), q[what]);
        }
        Check.due("teller(2, 0)", x.teller(2, 0), -1);
        Check.due("teller(-1, 0)", x.teller(-1, 0), -1);
        Check.due("teller(0, -1)", x.teller(0, -1), -1);
    }

    private static void lines() {
        SaidSo x = Check.told("thing a 4 is 2;thing b 3 is 0;teller p 9 begins 5 ends 8;teller q 9 begins 1 ends 9;"
                + "ask p 7 b;ask q 2 a 3;say q 3 b 0;");
        long[][] want = {{0, 0, 7, 1, -1, -2}, {0, 1, 2, 0, 3, -2}, {1, 1, 3, 1, 0, -2}};
        for (int line = 0; line < 3; line++) {
            for (int what = 0; what < 6; what++) {
                Check.due("line(" + line + ", " + what + ")", x.line(line, what), want[line][what]);
            }
        }
        Check.due("line(3, 0)", x.line(3, 0), -2);
        Check.due("line(-1, 0)", x.line(-1, 0), -2);
        Check.due("line(0, -1)", x.line(0, -1), -2);
        x.hear(3);
        Check.due("line(0, 0), not heard", x.line(0, 0), -2);
        Check.due("line(1, 4), heard", x.line(1, 4), 3);
    }

    private static void saying() {
        SaidSo x = Check.told("thing a 4 is 2;teller p 9 begins 5 ends 8;teller q 9 begins 0 ends 9;ask p 6 a;");
        Check.due("no such teller", x.say(true, 2, 6, 0, 0), -1);
        Check.due("no such teller", x.say(true, -1, 6, 0, 0), -1);
        Check.due("no such thing", x.say(true, 0, 6, 1, 0), -1);
        Check.due("no such thing", x.say(true, 0, 6, -1, 0), -1);
        Check.due("ahead of his line ahead", x.say(true, 0, 5, 0, 0), -1);
        Check.due("behind his talk", x.say(true, 0, 9, 0, 0), -1);
        Check.due("ahead of his talk", x.say(true, 0, 4, 0, 0), -1);
        Check.due("no such value", x.say(true, 0, 6, 0, 4), -1);
        Check.due("no such value of an ask", x.say(false, 0, 6, 0, 4), -1);
        Check.due("no such value of an ask", x.say(false, 0, 6, 0, -2), -1);
        Check.due("a word without value", x.say(true, 0, 6, 0, -1), -1);
        Check.due("a word", x.say(true, 0, 6, 0, 3), 1);
        Check.due("an ask with a value", x.say(false, 1, 0, 0, 0), 2);
        Check.due("an ask without one", x.say(false, 1, 1, 0, -1), 3);
        Check.due("its value", x.line(3, 4), -1);
        Check.due("told", x.count(7), 3);
        x.hear(0);
        Check.due("lines that aren't heard count too", x.say(true, 0, 5, 0, 0), -1);
        Check.due("a line that isn't heard", x.say(true, 0, 8, 0, 0), 4);
        Check.due("all", x.count(2), 5);
        Check.due("heard", x.count(3), 1);
        for (int i = 5; i < 60; i++) {
            Check.due("line " + i, x.say(true, 1, 9, 0, 0), i);
        }
        Check.due("a 61st", x.say(true, 1, 9, 0, 0), -1);
        Check.due("undo", x.undo(), 58);
        Check.due("a 60th again", x.say(false, 1, 9, 0, -1), 59);
    }

    private static void undoing() {
        SaidSo x = Check.told("thing a 4 is 2;teller p 9 begins 5 ends 8;ask p 6 a;");
        Check.due("undo of the text", x.undo(), -1);
        x.say(true, 0, 8, 0, 0);
        x.say(true, 0, 8, 0, 1);
        Check.due("undo", x.undo(), 1);
        Check.due("story", x.story(0, 0), 0);
        Check.due("undo", x.undo(), 0);
        Check.due("undo", x.undo(), -1);
        Check.due("lines", x.count(2), 1);
        Check.due("hours may come again", x.say(true, 0, 6, 0, 0), 1);
        x.hear(0);
        Check.due("undo of what isn't heard", x.undo(), 0);
        x.hear(199);
        x.say(true, 0, 6, 0, 0);
        Check.tell(x, "thing a 4 is 2;");
        Check.due("a new case has none", x.undo(), -1);
    }

    private static void hearing() {
        SaidSo x = Check.told("thing a 4 is 2;teller p 9 begins 5 ends 8;teller q 9 begins 0 ends 199;"
                + "ask p 6 a;say p 7 a 1;say q 0 a 2;say q 199 a 3;");
        Check.due("hear(-1)", x.hear(-1), -1);
        Check.due("hear(200)", x.hear(200), -1);
        Check.due("hour", x.count(6), 199);
        Check.due("hear(0)", x.hear(0), 1);
        Check.due("hear(6)", x.hear(6), 2);
        Check.due("hear(198)", x.hear(198), 3);
        Check.due("hear(199)", x.hear(199), 4);
        x.hear(6);
        Check.due("hear(200) changes nothing", x.hear(200), -1);
        Check.due("hour", x.count(6), 6);
        Check.due("word that isn't heard", x.word(1), -1);
        Check.due("led that isn't heard", x.led(1), -1);
        Check.due("law that isn't heard", x.law(1), -1);
        Check.due("word behind it", x.word(2), RIGHT | FIRST | NEW | CLEAN);
        Check.due("story", x.story(0, 0), -1);
        Check.due("words", x.words(0, FIRST), 0);
    }

    private static void publicWords() {
        SaidSo x = Check.told("thing a 4 is 2 paper 6;thing b 4 is 1 paper 7;thing c 4 is 3 paper 0;"
                + "teller p 9 begins 5 ends 8 tape 5;say p 6 a 2;say p 6 b 1;say p 6 c 0;");
        Check.due("in the paper that hour", x.word(0), RIGHT | FIRST | PUBLIC);
        Check.due("in the paper behind it", x.word(1), RIGHT | FIRST | NEW | CLEAN);
        Check.due("wrong ones aren't public", x.word(2), FIRST | CLEAN);
    }

    private static void offWords() {
        String things = "thing a 4 is 2 police 6;thing b 4 is 1 police 7;thing c 4 is 3 police 0;";
        SaidSo x = Check.told(things + "teller p 9 begins 5 ends 9 tape 7;say p 5 a 2;say p 6 c 2;say p 6 a 2;say p 8 b 1;say p 8 c 3;");
        Check.due("the police didn't know yet", x.word(0), RIGHT | FIRST | NEW | CLEAN);
        Check.due("wrong ones aren't off", x.word(1), FIRST | CLEAN);
        Check.due("known off tape that hour", x.word(2), RIGHT | OFF);
        Check.due("known on tape alone", x.word(3), RIGHT | FIRST | CLEAN);
        Check.due("known off tape, said on it", x.word(4), RIGHT | OFF);
        x = Check.told(things + "teller p 9 begins 5 ends 9 tape 5;say p 8 a 2;say p 8 c 3;");
        Check.due("all on tape", x.word(0), RIGHT | FIRST | CLEAN);
        Check.due("all on tape, known long ahead", x.word(1), RIGHT | FIRST | CLEAN);
        x = Check.told(things + "teller p 9 begins 5 ends 9 tape 6;say p 5 c 3;");
        Check.due("known in the one hour off tape", x.word(0), RIGHT | FIRST | OFF);
        x = Check.told(things + "teller p 9 begins 5 ends 9;say p 6 b 1;say p 7 a 2;say p 9 b 1;");
        Check.due("never taped, not known yet", x.word(0), RIGHT | FIRST | NEW | CLEAN);
        Check.due("never taped", x.word(1), RIGHT | FIRST | OFF);
        Check.due("never taped, again", x.word(2), RIGHT | OFF);
    }

    private static void ledWords() {
        SaidSo x = Check.told("thing a 4 is 2;thing b 4 is 2;teller p 9 begins 0 ends 9;teller q 9 begins 0 ends 9;"
                + "ask p 1 a 2;ask p 1 a 2;ask p 1 a 1;ask p 1 a;ask q 1 a 3;"
                + "say p 2 a 2;say p 2 a 1;say p 2 b 2;say p 2 a 3;say q 2 a 3;ask p 3 a 3;say p 3 a 0;");
        Check.due("led, the latest such ask", x.led(5), 1);
        Check.due("led, wrong", x.led(6), 2);
        Check.due("another thing", x.led(7), -1);
        Check.due("another teller's ask, or one behind it", x.led(8), -1);
        Check.due("led q", x.led(9), 4);
        Check.due("led by none", x.led(11), -1);
        Check.due("an ask", x.led(0), -1);
        Check.due("no line", x.led(12), -1);
        Check.due("no line", x.led(-1), -1);
        Check.due("word 5", x.word(5), RIGHT | FIRST | LED | NEW);
        Check.due("word 6", x.word(6), LED);
        Check.due("word 9", x.word(9), FIRST | LED);
        Check.due("word of an ask", x.word(0), -1);
        Check.due("word of no line", x.word(12), -1);
        Check.due("word of no line", x.word(-1), -1);
    }

    private static void firstWords() {
        SaidSo x = Check.told("thing a 4 is 2;thing b 4 is 2;teller p 9 begins 0 ends 9;teller q 9 begins 0 ends 9;"
                + "say p 2 a 0;say q 2 a 0;say p 2 b 0;say p 2 a 2;");
        Check.due("first", x.word(0), FIRST | CLEAN);
        Check.due("first of q", x.word(1), FIRST | CLEAN);
        Check.due("first of b", x.word(2), FIRST | CLEAN);
        Check.due("not first", x.word(3), RIGHT | NEW);
    }

    private static void countedWords() {
        SaidSo x = Check.told("thing a 4 is 2;thing b 4 is 2 police 0;teller p 9 begins 0 ends 9;teller q 9 begins 0 ends 9;"
                + "say p 2 a 0;say q 2 a 0;ask p 2 b 1;say p 2 b 1;say p 2 a 2;say p 3 b 2;");
        Check.due("right", x.words(0, RIGHT), 2);
        Check.due("first", x.words(0, FIRST), 2);
        Check.due("led", x.words(0, LED), 1);
        Check.due("first and led", x.words(0, FIRST | LED), 1);
        Check.due("off", x.words(0, OFF), 1);
        Check.due("clean", x.words(0, CLEAN), 1);
        Check.due("all", x.words(0, 127), 0);
        Check.due("q", x.words(1, FIRST), 1);
        Check.due("no bits", x.words(0, 0), -1);
        Check.due("bits below", x.words(0, -1), -1);
        Check.due("bits above", x.words(0, 128), -1);
        Check.due("no teller", x.words(2, 1), -1);
        Check.due("no teller", x.words(-1, 1), -1);
        x.hear(2);
        Check.due("off, heard", x.words(0, OFF), 0);
    }
}
