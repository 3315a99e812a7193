/** Promises 15 to 17: truth, begin, odds. */
final class OddsTest {
    public static void main(String[] args) {
        limits();
        cleanWords();
        withOff();
        ofThePage();
        greatest();
        Check.end();
    }

    private static void odds(SaidSo x, int teller, int kind, long there, long not) {
        Check.due("odds(" + teller + ", " + kind + ", 0)", x.odds(teller, kind, 0), there);
        Check.due("odds(" + teller + ", " + kind + ", 1)", x.odds(teller, kind, 1), not);
    }

    private static void limits() {
        SaidSo x = Check.told("thing a 4 is 2;teller p 9 begins 0 ends 9;say p 1 a 2;");
        int[] bad = {0, -1, 100, Integer.MAX_VALUE, Integer.MIN_VALUE};
        for (int number : bad) {
            Check.due("truth(" + number + ")", x.truth(number), false);
            Check.due("begin(" + number + ", 1)", x.begin(number, 1), false);
            Check.due("begin(1, " + number + ")", x.begin(1, number), false);
        }
        Check.due("truth(10)", x.truth(10), false);
        odds(x, 0, 0, 18, 5);
        Check.due("truth(1)", x.truth(1), true);
        odds(x, 0, 0, 2, 5);
        Check.due("truth(9)", x.truth(9), true);
        odds(x, 0, 0, 18, 5);
        Check.due("truth(1)", x.truth(1), true);
        Check.due("begin(99, 33)", x.begin(99, 33), true);
        odds(x, 0, 0, 6, 5);
        Check.due("begin(1, 99)", x.begin(1, 99), true);
        odds(x, 0, 0, 2, 495);
        Check.due("begin(4, 0)", x.begin(4, 0), false);
        odds(x, 0, 0, 2, 495);
        Check.due("odds(1, 0, 0)", x.odds(1, 0, 0), -1);
        Check.due("odds(-1, 0, 0)", x.odds(-1, 0, 0), -1);
        Check.due("odds(0, 3, 0)", x.odds(0, 3, 0), -1);
        Check.due("odds(0, -1, 0)", x.odds(0, -1, 0), -1);
        Check.due("odds(0, 0, 2)", x.odds(0, 0, 2), -1);
        Check.due("odds(0, 0, -1)", x.odds(0, 0, -1), -1);
        x = Check.told("teller p 9 begins 0 ends 9;");
        x.begin(6, 9);
        odds(x, 0, 0, 2, 3);
        odds(x, 0, 1, 2, 3);
        odds(x, 0, 2, 2, 3);
    }

    private static void cleanWords() {
        SaidSo x = Check.told("thing a 4 is 2;thing b 3 is 0;thing c 2 is 0 paper 1;thing d 9 is 0;"
                + "teller p 9 begins 0 ends 9;teller q 9 begins 0 ends 9;"
                + "ask p 1 d 0;say p 1 a 2;say p 2 a 1;say p 2 b 1;say p 2 c 0;say p 2 d 0;say q 3 a 2;");
        // a right: 36 by 10; b wrong: 3 by 20; c is public, d led, a's second word isn't first.
        odds(x, 0, 0, 27, 50);
        odds(x, 1, 0, 18, 5);
        x.hear(1);
        odds(x, 0, 0, 18, 5);
        odds(x, 1, 0, 1, 1);
    }

    private static void withOff() {
        SaidSo x = Check.told("thing a 4 is 2 police 1;thing b 3 is 0 police 1 paper 2;thing c 5 is 1 police 0;"
                + "teller p 9 begins 0 ends 9 tape 5;ask p 1 c 1;say p 1 a 2;say p 2 b 0;say p 6 c 1;");
        odds(x, 0, 0, 1, 1);
        odds(x, 0, 1, 18, 5);
    }

    private static void ofThePage() {
        SaidSo x = Check.told("thing a 4 is 2 paper 0;thing b 3 is 0;teller p 9 begins 0 ends 9;teller q 9 begins 0 ends 9;"
                + "ask p 0 a 2;page p a 2;page p a 1;page q b 0;page p b 1;page q b 1;");
        odds(x, 0, 2, 27, 50);
        odds(x, 1, 2, 27, 10);
        odds(x, 0, 0, 1, 1);
        x.hear(0);
        odds(x, 0, 2, 27, 50);
    }

    private static void greatest() {
        StringBuilder things = new StringBuilder();
        StringBuilder right = new StringBuilder();
        StringBuilder wrong = new StringBuilder();
        for (char c = 'a'; c < 'i'; c++) {
            things.append("thing ").append(c).append(" 9 is 0;");
            right.append("say p 0 ").append(c).append(" 0;");
            wrong.append("page p ").append(c).append(" 1;");
        }
        SaidSo x = Check.told(things + "teller p 9 begins 0 ends 9;" + right + wrong);
        x.begin(99, 1);
        odds(x, 0, 0, 183448998696332259L, 100000000L);
        x.begin(1, 99);
        // Eight times 9 by 80.
        odds(x, 0, 2, 43046721L / 9, 99L / 9 * 1677721600000000L);
        x.truth(1);
        x.begin(97, 98);
        odds(x, 0, 2, 97L * 1853020188851841L, 98L * 1677721600000000L);
    }
}
