import java.nio.charset.StandardCharsets;
import java.util.ArrayList;
import java.util.List;
import java.util.Random;

/** All promises: cases and calls by chance (of fixed seeds), each answer held against that of the plain Model. */
final class ModelTest {
    private static final int RUNS = 1500;
    private static final String[] THINGS = {"a", "bb", "gate", "shoe", "knife", "abcdef", "g", "h", "i"};
    private static final String[] TELLERS = {"p", "q", "a", "boy", "girlie", "zz"};

    private final Random chance;
    private final SaidSo x = new SaidSo();
    private final Model m = new Model();
    private int good = 0;
    private int full = 0;

    private ModelTest(long seed) {
        chance = new Random(seed);
    }

    public static void main(String[] args) {
        int good = 0;
        int faults = 0;
        int full = 0;
        for (int run = 0; run < RUNS; run++) {
            ModelTest test = new ModelTest(run);
            test.run();
            good += test.good;
            full += test.full;
            faults += test.m.fault == 0 ? 0 : 1;
        }
        System.out.println(good + " cases without a fault, " + faults + " runs that end with one, " + full + " with sixty talk lines");
        Check.due("enough cases are full", full > 20, true);
        Check.due("enough cases are good", good > RUNS / 2, true);
        Check.due("enough cases are not", faults > RUNS / 4, true);
        Check.end();
    }

    private int upTo(int most) {
        return chance.nextInt(most + 1);
    }

    private boolean oneIn(int many) {
        return chance.nextInt(many) == 0;
    }

    private void run() {
        for (int i = 0; i < 3; i++) {
            StringBuilder text = new StringBuilder(oneIn(4) ? edgeText() : caseText());
            if (oneIn(2)) {
                spoil(text);
            }
            tell(text.toString());
            if (m.fault == 0) {
                good++;
            }
            changes();
            full += m.c.lines.size() == 60 ? 1 : 0;
            askAll();
        }
    }

    private void tell(String text) {
        String all = text;
        while (all.length() % 20 != 0) {
            all += " ";
        }
        for (int i = 0; i < all.length(); i += 20) {
            String twenty = all.substring(i, i + 20);
            byte[] b = twenty.getBytes(StandardCharsets.ISO_8859_1);
            int[] n = new int[5];
            for (int j = 0; j < 20; j++) {
                n[j / 4] = n[j / 4] << 8 | b[j] & 255;
            }
            Check.due("feed", x.feed(n[0], n[1], n[2], n[3], n[4]), m.feed(twenty));
        }
        int n = Math.min(text.length(), 800);
        Check.due("tell(801)", x.tell(801), m.tell(801));
        Check.due("tell '" + text + "'", x.tell(n), m.tell(n));
        Check.due("fault of '" + text + "'", x.fault(0), m.fault);
        Check.due("place in '" + text + "'", x.fault(1), m.place);
    }

    private String caseText() {
        StringBuilder text = new StringBuilder();
        int things = 1 + upTo(3);
        int tellers = 1 + upTo(oneIn(4) ? 4 : 2);
        int[] ways = new int[things];
        for (int i = 0; i < things; i++) {
            ways[i] = 2 + upTo(oneIn(3) ? 7 : 2);
            text.append("thing ").append(THINGS[i]).append(' ').append(ways[i]).append(" is ").append(upTo(ways[i] - 1));
            text.append(oneIn(2) ? " police " + upTo(9) : "").append(oneIn(3) ? " paper " + upTo(9) : "").append(";");
        }
        int[] hour = new int[tellers];
        int[] end = new int[tellers];
        for (int i = 0; i < tellers; i++) {
            hour[i] = upTo(5);
            end[i] = hour[i] + upTo(6);
            text.append("teller ").append(TELLERS[i]).append(' ').append(1 + upTo(98)).append(" begins ").append(hour[i]);
            text.append(" ends ").append(end[i]).append(oneIn(3) ? "" : " tape " + (hour[i] + upTo(end[i] - hour[i]))).append(";\n");
        }
        int lines = upTo(22);
        for (int i = 0; i < lines; i++) {
            int teller = upTo(tellers - 1);
            int thing = upTo(things - 1);
            hour[teller] = oneIn(3) ? Math.min(end[teller], hour[teller] + 1 + upTo(1)) : hour[teller];
            boolean ask = oneIn(3);
            text.append(ask ? "ask " : "say ").append(TELLERS[teller]).append(' ').append(hour[teller]).append(' ').append(THINGS[thing]);
            text.append(ask && oneIn(3) ? "" : " " + upTo(ways[thing] - 1)).append(";");
        }
        int pages = upTo(8);
        for (int i = 0; i < pages; i++) {
            int thing = upTo(things - 1);
            text.append("page ").append(TELLERS[upTo(tellers - 1)]).append(' ').append(THINGS[thing]).append(' ').append(upTo(ways[thing] - 1)).append(";");
        }
        for (String kind : new String[] {"law ", "bar ", "jury "}) {
            text.append(oneIn(4) ? "" : kind + formula(kind.equals("law ") ? 2 : 3) + ";");
        }
        return text.length() > 800 ? caseText() : text.toString();
    }

    /** A text with about as many of one kind as there may be, in which HOURS are near the first or the last of all. */
    private String edgeText() {
        int most = upTo(4);
        int things = most == 0 ? 7 + upTo(2) : 1 + upTo(2);
        int tellers = most == 1 ? 4 + upTo(2) : 1 + upTo(1);
        int lines = most == 2 ? 39 + upTo(2) : upTo(12);
        int pages = most == 3 ? 19 + upTo(2) : upTo(6);
        StringBuilder text = new StringBuilder();
        for (int i = 0; i < things; i++) {
            text.append("thing ").append((char) ('a' + i)).append(oneIn(2) ? " 2is1" : " 9is8");
            text.append(oneIn(2) ? "police" + edgeHour() : "").append(oneIn(3) ? "paper" + edgeHour() : "").append(';');
        }
        for (int i = 0; i < tellers; i++) {
            int from = upTo(1) * 198;
            text.append("teller ").append((char) ('p' + i)).append(oneIn(2) ? " 1" : " 99").append("begins").append(from).append("ends").append(oneIn(2) ? 199 : from + 1);
            text.append(oneIn(3) ? "" : "tape" + (from + upTo(1))).append(';');
        }
        for (int i = 0; i < lines; i++) {
            text.append(oneIn(3) ? "ask " : "say ").append((char) ('p' + upTo(tellers - 1))).append(i < lines / 2 && oneIn(9) ? 198 : 199);
            text.append((char) ('a' + upTo(things - 1))).append(upTo(1)).append(';');
        }
        for (int i = 0; i < pages; i++) {
            text.append("page ").append((char) ('p' + upTo(tellers - 1))).append(' ').append((char) ('a' + upTo(things - 1))).append(upTo(1)).append(';');
        }
        text.append("law").append(oneIn(2) ? " asks*9" : "100-1").append(";bar").append(oneIn(2) ? " off>199" : " put>0").append(";jury(1)");
        for (int i = 0; most == 4 && i < 24 + upTo(3); i++) {
            text.append(oneIn(2) ? "+1" : "*2");
        }
        text.append(oneIn(4) ? "/0" : "").append(';');
        return text.length() > 800 ? edgeText() : text.toString();
    }

    private int edgeHour() {
        return oneIn(20) ? 200 : new int[] {0, 1, 197, 198, 199}[upTo(4)];
    }

    private String formula(int depth) {
        int kind = depth == 0 ? upTo(1) : upTo(11);
        if (kind == 0 || kind == 8) {
            return "" + (oneIn(4) ? upTo(999) : upTo(5));
        }
        if (kind == 1 || kind == 9) {
            return Model.NAMES.get(upTo(9));
        }
        if (kind == 2) {
            return "not " + formula(depth - 1);
        }
        if (kind == 3) {
            return "(" + formula(depth - 1) + ")";
        }
        String[] signs = {"+", "-", "*", "/", "<", "<=", "=", "<>", ">=", ">", " and ", " or "};
        String sign = signs[upTo(signs.length - 1)];
        // With brackets it can always stand, without them not always.
        return oneIn(5) ? formula(depth - 1) + sign + formula(depth - 1) : "(" + formula(depth - 1) + ")" + sign + "(" + formula(depth - 1) + ")";
    }

    private void spoil(StringBuilder text) {
        String[] pieces = {" ", "\n", ";", "(", ")", "not ", "and ", " or ", "<", ">", "=", "1", "0", "9", " 200 ", " 1000 ", "a", " gate ",
            " p ", "\t", "!", "\u00e9", "\u0000", "A", "paper 3 ", "police 4 ", "tape 5 ", "law 1;", "bar age;", "jury 1;", "thing x 2 is 0;",
            "teller x 5 begins 1 ends 2;", "thing a 2 is 1;", "teller p 1 begins 1 ends 1;", " abcdefgh ", "-", "+ ", " is ", " off "};
        int times = 1 + upTo(2);
        for (int i = 0; i < times && text.length() > 0; i++) {
            int at = upTo(text.length() - 1);
            switch (upTo(4)) {
                case 0: text.delete(at, Math.min(text.length(), at + 1 + upTo(3))); break;
                case 1: text.insert(at, pieces[upTo(pieces.length - 1)]); break;
                case 2: text.setLength(at); break;
                case 3: swapLines(text); break;
                default: text.setCharAt(at, "0123456789abcp;() <>="
                        .charAt(upTo(20)));
            }
        }
        if (text.length() > 800) {
            text.setLength(800);
        }
    }

    private void swapLines(StringBuilder text) {
        List<String> lines = new ArrayList<>(List.of(text.toString().split("(?<=;)")));
        int a = upTo(lines.size() - 1);
        int b = upTo(lines.size() - 1);
        String line = lines.get(a);
        lines.set(a, lines.get(b));
        lines.set(b, line);
        text.setLength(0);
        text.append(String.join("", lines));
    }

    private void changes() {
        int many = upTo(12);
        for (int i = 0; i < many; i++) {
            boolean word = oneIn(2);
            int teller = upTo(4) - 1;
            int hour = upTo(12);
            int thing = upTo(5) - 1;
            int value = upTo(6) - 2;
            Check.due("say(" + word + ", " + teller + ", " + hour + ", " + thing + ", " + value + ")",
                    x.say(word, teller, hour, thing, value), m.say(word, teller, hour, thing, value));
            if (oneIn(4)) {
                Check.due("undo()", x.undo(), m.undo());
            }
        }
        for (int i = upTo(9) * 7; i > 20; i--) {
            // Up to sixty lines and beyond, at the last hours of the talks.
            boolean word = oneIn(2);
            int teller = upTo(1);
            int thing = upTo(1);
            int hour = m.teller(teller, 2);
            Check.due("say at " + hour, x.say(word, teller, hour, thing, i % 2), m.say(word, teller, hour, thing, i % 2));
        }
        if (oneIn(2)) {
            int hour = oneIn(5) ? upTo(400) - 100 : upTo(12);
            Check.due("hear(" + hour + ")", x.hear(hour), m.hear(hour));
        }
        int truth = upTo(12) - 1;
        Check.due("truth(" + truth + ")", x.truth(truth), m.truth(truth));
        int there = upTo(101);
        int not = upTo(101);
        Check.due("begin(" + there + ", " + not + ")", x.begin(there, not), m.begin(there, not));
        int who = upTo(34) - 2;
        Check.due("there(" + who + ")", x.there(who), m.there(who));
    }

    private void askAll() {
        for (int i = -1; i < 10; i++) {
            Check.due("count(" + i + ")", x.count(i), m.count(i));
            for (int what = -1; what < 6; what++) {
                Check.due("look(" + i + ", " + what + ")", Check.looked(x, i, what), m.look(i, what));
                Check.due("teller(" + i + ", " + what + ")", x.teller(i, what), m.teller(i, what));
            }
        }
        for (String name : THINGS) {
            Check.due("named(0, " + name + ")", x.named(0, Check.letters(name)), m.named(0, Check.letters(name)));
        }
        for (String name : TELLERS) {
            Check.due("named(1, " + name + ")", x.named(1, Check.letters(name)), m.named(1, Check.letters(name)));
        }
        for (int line = -1; line < 62; line++) {
            for (int what = -1; what < 6; what++) {
                Check.due("line(" + line + ", " + what + ")", x.line(line, what), m.line(line, what));
            }
            Check.due("word(" + line + ")", x.word(line), m.word(line));
            Check.due("led(" + line + ")", x.led(line), m.led(line));
            Check.due("law(" + line + ")", x.law(line), m.law(line));
            Check.due("page(" + line + ")", x.page(line), m.page(line));
        }
        for (int teller = -1; teller < 6; teller++) {
            askOf(teller);
        }
        Check.due("together()", x.together(), m.together());
        for (int set = -1; set < 33; set++) {
            Check.due("lies(" + set + ")", x.lies(set), m.lies(set));
        }
        for (int by = -1; by < 4; by++) {
            for (int what = -1; what < 3; what++) {
                Check.due("found(" + by + ", " + what + ")", x.found(by, what), m.found(by, what));
            }
        }
    }

    private void askOf(int teller) {
        for (int bits = 0; bits < 129; bits += 1 + upTo(9)) {
            Check.due("words(" + teller + ", " + bits + ")", x.words(teller, bits), m.words(teller, bits));
        }
        for (int kind = -1; kind < 4; kind++) {
            for (int what = -1; what < 3; what++) {
                Check.due("odds(" + teller + ", " + kind + ", " + what + ")", x.odds(teller, kind, what), m.odds(teller, kind, what));
            }
            Check.due("jury(" + teller + ", " + kind + ")", x.jury(teller, kind), m.jury(teller, kind));
        }
        Check.due("left(" + teller + ")", x.left(teller), m.left(teller));
        Check.due("moved(" + teller + ")", x.moved(teller), m.moved(teller));
        Check.due("supposed(" + teller + ")", x.supposed(teller), m.supposed(teller));
        Check.due("barred(" + teller + ")", x.barred(teller), m.barred(teller));
        for (int other = -1; other < 7; other++) {
            Check.due("story(" + teller + ", " + other + ")", x.story(teller, other), m.story(teller, other));
            Check.due("clash(" + teller + ", " + other + ")", x.clash(teller, other), m.clash(teller, other));
        }
        int seed = oneIn(9) ? -1 : chance.nextInt() & 0x7fffffff;
        int many = upTo(20);
        Check.due("draws(" + teller + ", " + seed + ", " + many + ")", x.draws(teller, seed, many), m.draws(teller, seed, many));
    }
}
