import java.util.NoSuchElementException;
import java.util.Random;

/** Calls of any kind on objects in any state: they end, and throw nothing but what the document names. */
final class EdgeTest {
    private static final int[] EDGES = {Integer.MIN_VALUE, Integer.MIN_VALUE + 1, -1000, -3, -2, -1, 0, 1, 2, 3, 4, 5, 6, 7, 8, 9, 10, 19, 20,
        21, 31, 32, 39, 40, 41, 59, 60, 61, 63, 64, 99, 100, 127, 128, 198, 199, 200, 799, 800, 801, 1 << 25, Integer.MAX_VALUE - 1, Integer.MAX_VALUE};
    private static final String[] TOKENS = {"thing ", "is ", "paper ", "police ", "teller ", "begins ", "ends ", "tape ", "ask ", "say ", "page ",
        "law ", "bar ", "jury ", "or ", "and ", "not ", "age ", "hours ", "off ", "a ", "b ", "0 ", "1 ", "2 ", "9 ", "999 ", "1000 ", "; ", "(", ")",
        "<", "<=", "=", "<>", ">=", ">", "+", "-", "*", "/", "abcdefg "};

    public static void main(String[] args) {
        for (int seed = 0; seed < 400; seed++) {
            new EdgeTest(seed).run();
        }
        fullest();
        deepest();
        Check.end();
    }

    private final Random chance;
    private SaidSo x = new SaidSo();

    private EdgeTest(int seed) {
        chance = new Random(seed);
    }

    private int any() {
        return chance.nextInt(8) == 0 ? chance.nextInt() : EDGES[chance.nextInt(EDGES.length)];
    }

    private int small() {
        return chance.nextInt(6) == 0 ? any() : chance.nextInt(5);
    }

    private void run() {
        if (chance.nextInt(3) > 0) {
            x = Check.told("thing a 2 is 0 police 3;thing b 9 is 8 paper 1;teller p 30 begins 0 ends 9;teller q 17 begins 2 ends 8 tape 5;"
                    + "ask p 1 a 0;say p 2 a 0;say p 3 b 7;ask q 3 a;ask q 4 a 1;say q 4 a 1;say q 6 a 0;say q 6 b 8;"
                    + "page q a 0;page q b 8;page q b 8;law led * 20 / hours;bar 4 / off > 4;jury right > wrong and new >= 1;");
        }
        for (int i = 0; i < 500; i++) {
            String thrown = "";
            boolean looks = chance.nextInt(33) == 32;
            try {
                call(looks ? 32 : chance.nextInt(32));
            } catch (IndexOutOfBoundsException | NoSuchElementException e) {
                thrown = looks && (e.getClass() == IndexOutOfBoundsException.class || e.getClass() == NoSuchElementException.class) ? "" : "" + e;
            } catch (RuntimeException e) {
                thrown = "" + e;
            }
            Check.due("nothing is thrown " + thrown, thrown.length(), 0);
        }
    }

    private void call(int which) {
        switch (which) {
            case 0: x.feed(chance.nextInt(), any(), any(), any(), any()); break;
            case 1: x.tell(any()); break;
            case 2: tellTokens(); break;
            case 3: x.fault(any()); break;
            case 4: x.named(small(), any()); break;
            case 5: x.teller(small(), small()); break;
            case 6: x.line(any(), small()); break;
            case 7: x.say(chance.nextBoolean(), small(), small() + chance.nextInt(6), small(), small() - 1); break;
            case 8: x.say(chance.nextBoolean(), chance.nextInt(2), 8, chance.nextInt(2), chance.nextInt(2)); break;
            case 9: x.undo(); break;
            case 10: x.hear(any()); break;
            case 11: x.word(any()); break;
            case 12: x.led(any()); break;
            case 13: x.words(small(), any()); break;
            case 14: x.truth(any()); break;
            case 15: x.begin(any(), any()); break;
            case 16: x.odds(small(), small(), small()); break;
            case 17: x.page(any()); break;
            case 18: x.left(small()); break;
            case 19: x.moved(small()); break;
            case 20: x.story(small(), small()); break;
            case 21: x.clash(small(), small()); break;
            case 22: x.together(); break;
            case 23: x.lies(any()); break;
            case 24: x.supposed(small()); break;
            case 25: x.law(any()); break;
            case 26: x.draws(small(), any(), any()); break;
            case 27: x.barred(small()); break;
            case 28: x.jury(small(), small()); break;
            case 29: x.there(any()); break;
            case 30: x.found(small(), small()); break;
            case 31: x.count(any()); break;
            default: x.look(small(), small());
        }
    }

    private void tellTokens() {
        x.tell(0);
        StringBuilder text = new StringBuilder(chance.nextBoolean() ? "thing a 2 is 0;teller b 9 begins 0 ends 9;law " : "");
        while (text.length() < 760) {
            text.append(TOKENS[chance.nextInt(TOKENS.length)]);
        }
        Check.tell(x, text.toString());
    }

    /** As many of all as can be told, through every call. */
    private static void fullest() {
        StringBuilder text = new StringBuilder();
        for (char c = 'a'; c < 'i'; c++) {
            text.append("thing ").append(c).append(" 9 is 8;");
        }
        for (char c = 'a'; c < 'f'; c++) {
            text.append("teller ").append(c).append(" 9 begins 0 ends 1;");
        }
        for (int i = 0; i < 20; i++) {
            text.append("page a ").append((char) ('a' + i % 8)).append(" 8;");
        }
        text.append("law 1;bar 0;jury ");
        for (int i = 0; i < 30; i++) {
            text.append("1+");
        }
        text.append("1;");
        SaidSo x = Check.told(text.toString());
        Check.due("knots", x.count(5), 63);
        for (int i = 0; i < 60; i++) {
            Check.due("say " + i, x.say(true, i % 5, 1, i / 5 % 8, i % 9), i);
        }
        for (int teller = 0; teller < 5; teller++) {
            for (int what = 0; what < 3; what++) {
                Check.due("odds are above 0", x.odds(teller, what, 0) > 0 && x.odds(teller, what, 1) > 0, true);
            }
            Check.due("jury", x.jury(teller, 2), 1);
            Check.due("draws", x.draws(teller, 1, 99) >= 0, true);
            Check.due("moved", x.moved(teller) >= 0, true);
        }
        Check.due("a set of them", x.together() > 0, true);
        Check.due("lies", x.lies(31) > 0, true);
        Check.due("wronged", x.found(2, 0), 31);
    }

    /** The most that can be held back at once: eight brackets and all knots but one. */
    private static void deepest() {
        StringBuilder text = new StringBuilder("jury ");
        for (int i = 0; i < 8; i++) {
            text.append("not not not 1 and not 1 < (");
        }
        SaidSo x = new SaidSo();
        Check.due("too many knots", Check.tell(x, "teller p 9 begins 0 ends 1;" + text), -1);
        text = new StringBuilder("jury ");
        for (int i = 0; i < 8; i++) {
            text.append("not 1 or not (");
        }
        for (int i = 0; i < 31; i++) {
            text.append("not ");
        }
        text.append("0))))))));");
        Check.due("as many knots as can be", Check.tell(x, "teller p 9 begins 0 ends 1;" + text), 2);
        Check.due("knots", x.count(5), 64);
        Check.due("worth", x.jury(0, 2), 1);
    }
}
