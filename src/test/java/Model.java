import java.math.BigInteger;
import java.util.ArrayList;
import java.util.Arrays;
import java.util.List;

/**
 * The document again, in the plainest way and by other means than the class: lists, hours gone through
 * one by one, sets tried out, a parser that calls itself and numbers without bound.
 */
final class Model {
    static final List<String> LANGUAGE = Arrays.asList(("thing is paper police teller begins ends tape ask say page law bar jury "
            + "or and not age hours off asks led right wrong new put lines").split(" "));
    static final List<String> NAMES = LANGUAGE.subList(17, 27);
    private static final BigInteger LIMIT = BigInteger.TEN.pow(12);

    static final class Fault extends RuntimeException {
        private static final long serialVersionUID = 1L;
        final int fault;
        final int place;

        Fault(int fault, int place) {
            this.fault = fault;
            this.place = place;
        }
    }

    static final class Thing {
        String name;
        int ways;
        int is;
        int paper = -1;
        int police = -1;

        boolean inPaper(int hour) {
            return paper >= 0 && paper <= hour;
        }

        boolean withPolice(int hour) {
            return police >= 0 && police <= hour;
        }
    }

    static final class Teller {
        String name;
        int age;
        int begins;
        int ends;
        int tape = -1;

        boolean onTape(int hour) {
            return tape >= 0 && hour >= tape;
        }

        int offHours(int upTo) {
            int many = 0;
            for (int h = begins; h <= ends && h <= upTo; h++) {
                many += onTape(h) ? 0 : 1;
            }
            return many;
        }
    }

    static final class Line {
        boolean word;
        Teller teller;
        int hour;
        Thing thing;
        int value = -1;
        boolean said;
    }

    static final class Page {
        Teller teller;
        Thing thing;
        int value;
    }

    /** A node of an E; a sign "n" is a number, "v" a name. */
    static final class Node {
        final String sign;
        final int number;
        final Node left;
        final Node right;

        Node(String sign, int number, Node left, Node right) {
            this.sign = sign;
            this.number = number;
            this.left = left;
            this.right = right;
        }

        /** Null: an ERROR. */
        BigInteger work(int[] names) {
            BigInteger a = left == null ? BigInteger.ZERO : left.work(names);
            BigInteger b = right == null ? BigInteger.ZERO : right.work(names);
            if (a == null || b == null) {
                return null;
            }
            BigInteger value;
            switch (sign) {
                case "n": value = BigInteger.valueOf(number); break;
                case "v": value = BigInteger.valueOf(names[number]); break;
                case "+": value = a.add(b); break;
                case "-": value = a.subtract(b); break;
                case "*": value = a.multiply(b); break;
                case "/":
                    if (b.signum() == 0) {
                        return null;
                    }
                    value = a.divide(b);
                    break;
                default: value = holds(a, b) ? BigInteger.ONE : BigInteger.ZERO;
            }
            return value.abs().compareTo(LIMIT) > 0 ? null : value;
        }

        private boolean holds(BigInteger a, BigInteger b) {
            switch (sign) {
                case "not": return a.signum() == 0;
                case "and": return a.signum() != 0 && b.signum() != 0;
                case "or": return a.signum() != 0 || b.signum() != 0;
                case "<": return a.compareTo(b) < 0;
                case "<=": return a.compareTo(b) <= 0;
                case "=": return a.equals(b);
                case "<>": return !a.equals(b);
                case ">=": return a.compareTo(b) >= 0;
                default: return a.compareTo(b) > 0;
            }
        }
    }

    static final class Case {
        final List<Thing> things = new ArrayList<>();
        final List<Teller> tellers = new ArrayList<>();
        final List<Line> lines = new ArrayList<>();
        final List<Page> pages = new ArrayList<>();
        Node law;
        Node bar;
        Node jury;
        int size = 0;
        int knots = 0;
        int heard = 199;
        int who = 0;
    }

    /** A token by its text; what is none has the text "?". */
    static final class Token {
        final String text;
        final int place;

        Token(String text, int place) {
            this.text = text;
            this.place = place;
        }

        boolean isNumber() {
            return !text.isEmpty() && Character.isDigit(text.charAt(0));
        }

        boolean isName() {
            return !text.isEmpty() && text.charAt(0) >= 'a' && text.charAt(0) <= 'z' && !LANGUAGE.contains(text);
        }

        int number() {
            BigInteger number = new BigInteger(text);
            return number.bitLength() > 30 ? Integer.MAX_VALUE : number.intValue();
        }
    }

    static final class Parser {
        final List<Token> tokens = new ArrayList<>();
        final Case c = new Case();
        int at = 0;
        int open = 0;

        Parser(String text) {
            java.util.regex.Matcher m = java.util.regex.Pattern
                    .compile("[a-z]+|[0-9]+|<=|<>|>=|[;()+*/<=>-]|[ \n]|.", java.util.regex.Pattern.DOTALL).matcher(text);
            while (m.find()) {
                String t = m.group();
                boolean word = t.charAt(0) >= 'a' && t.charAt(0) <= 'z';
                if (word ? t.length() > 6 : !t.matches("[0-9]+|<=|<>|>=|[;()+*/<=>-]|[ \n]")) {
                    t = "?";
                }
                if (!t.equals(" ") && !t.equals("\n")) {
                    tokens.add(new Token(t, m.start()));
                }
            }
            tokens.add(new Token("", text.length()));
        }

        Token now() {
            return tokens.get(at);
        }

        Fault fault(int number) {
            return new Fault(number, now().place);
        }

        boolean is(String text) {
            return now().text.equals(text);
        }

        void word(String text) {
            if (!is(text)) {
                throw fault(1);
            }
            at++;
        }

        int number(int least, int most) {
            if (!now().isNumber()) {
                throw fault(1);
            }
            int number = now().number();
            if (number < least || number > most) {
                throw fault(2);
            }
            at++;
            return number;
        }

        String name() {
            if (!now().isName()) {
                throw fault(1);
            }
            return now().text;
        }

        Thing thing() {
            String name = name();
            for (Thing t : c.things) {
                if (t.name.equals(name)) {
                    at++;
                    return t;
                }
            }
            throw fault(4);
        }

        Teller teller() {
            String name = name();
            for (Teller t : c.tellers) {
                if (t.name.equals(name)) {
                    at++;
                    return t;
                }
            }
            throw fault(4);
        }

        Case read() {
            while (!is("")) {
                String kind = now().text;
                switch (kind) {
                    case "thing": readThing(); break;
                    case "teller": readTeller(); break;
                    case "ask":
                    case "say": readTalk(kind.equals("say")); break;
                    case "page": readPage(); break;
                    case "law": c.law = readE(c.law); break;
                    case "bar": c.bar = readE(c.bar); break;
                    case "jury": c.jury = readE(c.jury); break;
                    default: throw fault(1);
                }
                word(";");
                c.size++;
            }
            return c;
        }

        void readThing() {
            if (c.things.size() == 8) {
                throw fault(2);
            }
            at++;
            Thing t = new Thing();
            t.name = name();
            for (Thing other : c.things) {
                if (other.name.equals(t.name)) {
                    throw fault(3);
                }
            }
            at++;
            t.ways = number(2, 9);
            word("is");
            t.is = number(0, t.ways - 1);
            while (is("paper") || is("police")) {
                boolean paper = is("paper");
                if ((paper ? t.paper : t.police) >= 0) {
                    throw fault(3);
                }
                at++;
                int hour = number(0, 199);
                if (paper) {
                    t.paper = hour;
                } else {
                    t.police = hour;
                }
            }
            c.things.add(t);
        }

        void readTeller() {
            if (c.tellers.size() == 5) {
                throw fault(2);
            }
            at++;
            Teller t = new Teller();
            t.name = name();
            for (Teller other : c.tellers) {
                if (other.name.equals(t.name)) {
                    throw fault(3);
                }
            }
            at++;
            t.age = number(1, 99);
            word("begins");
            t.begins = number(0, 199);
            word("ends");
            t.ends = number(t.begins, 199);
            if (is("tape")) {
                at++;
                t.tape = number(t.begins, t.ends);
            }
            c.tellers.add(t);
        }

        void readTalk(boolean word) {
            if (c.lines.size() == 40) {
                throw fault(2);
            }
            at++;
            Line l = new Line();
            l.word = word;
            l.teller = teller();
            l.hour = number(l.teller.begins, l.teller.ends);
            for (Line other : c.lines) {
                if (other.teller == l.teller && other.hour > l.hour) {
                    at--;
                    throw fault(5);
                }
            }
            l.thing = thing();
            if (word || now().isNumber()) {
                l.value = number(0, l.thing.ways - 1);
            }
            c.lines.add(l);
        }

        void readPage() {
            if (c.pages.size() == 20) {
                throw fault(2);
            }
            at++;
            Page p = new Page();
            p.teller = teller();
            p.thing = thing();
            p.value = number(0, p.thing.ways - 1);
            c.pages.add(p);
        }

        Node readE(Node told) {
            if (told != null) {
                throw fault(3);
            }
            at++;
            open = 0;
            return either();
        }

        String knot() {
            if (c.knots == 64) {
                throw fault(2);
            }
            c.knots++;
            at++;
            return tokens.get(at - 1).text;
        }

        Node either() {
            Node left = all();
            while (is("or")) {
                left = new Node(knot(), 0, left, all());
            }
            return left;
        }

        Node all() {
            Node left = negated();
            while (is("and")) {
                left = new Node(knot(), 0, left, negated());
            }
            return left;
        }

        Node negated() {
            return is("not") ? new Node(knot(), 0, negated(), null) : compared();
        }

        Node compared() {
            Node left = sum();
            if (Arrays.asList("<", "<=", "=", "<>", ">=", ">").contains(now().text)) {
                return new Node(knot(), 0, left, sum());
            }
            return left;
        }

        Node sum() {
            Node left = term();
            while (is("+") || is("-")) {
                left = new Node(knot(), 0, left, term());
            }
            return left;
        }

        Node term() {
            Node left = part();
            while (is("*") || is("/")) {
                left = new Node(knot(), 0, left, part());
            }
            return left;
        }

        Node part() {
            if (is("(")) {
                if (open == 8) {
                    throw fault(2);
                }
                open++;
                at++;
                Node inside = either();
                word(")");
                open--;
                return inside;
            }
            if (NAMES.contains(now().text)) {
                return new Node("v", NAMES.indexOf(knot()), null, null);
            }
            int number = number(0, 999);
            at--;
            knot();
            return new Node("n", number, null, null);
        }
    }

    String bytes = "";
    Case c = new Case();
    int fault = 0;
    int place = -1;
    int truth = 9;
    int there = 1;
    int not = 1;

    int feed(String twenty) {
        if (bytes.length() + 20 > 800) {
            return -1;
        }
        bytes += twenty;
        return bytes.length();
    }

    int tell(int n) {
        if (n < 0 || n > bytes.length()) {
            return -2;
        }
        String text = bytes.substring(0, n);
        bytes = "";
        fault = 0;
        place = -1;
        try {
            c = new Parser(text).read();
            return c.size;
        } catch (Fault f) {
            fault = f.fault;
            place = f.place;
            return -1;
        }
    }

    boolean hasTeller(int t) {
        return t >= 0 && t < c.tellers.size();
    }

    boolean hasThing(int t) {
        return t >= 0 && t < c.things.size();
    }

    boolean isHeard(int line) {
        return line >= 0 && line < c.lines.size() && c.lines.get(line).hour <= c.heard;
    }

    int named(int what, int letters) {
        List<String> names = new ArrayList<>();
        if (what == 0) {
            c.things.forEach(t -> names.add(t.name));
        } else if (what == 1) {
            c.tellers.forEach(t -> names.add(t.name));
        }
        for (int i = 0; i < names.size(); i++) {
            if (Check.letters(names.get(i)) == letters) {
                return i;
            }
        }
        return -1;
    }

    /** -10 and -11: the two exceptions. */
    int look(int thing, int what) {
        if (!hasThing(thing)) {
            return -10;
        }
        Thing t = c.things.get(thing);
        return what < 0 || what > 3 ? -11 : new int[] {t.ways, t.is, t.paper, t.police}[what];
    }

    int teller(int teller, int what) {
        if (!hasTeller(teller) || what < 0 || what > 3) {
            return -1;
        }
        Teller t = c.tellers.get(teller);
        return new int[] {t.age, t.begins, t.ends, t.tape}[what];
    }

    int line(int line, int what) {
        if (!isHeard(line) || what < 0 || what > 4) {
            return -2;
        }
        Line l = c.lines.get(line);
        return new int[] {l.word ? 1 : 0, c.tellers.indexOf(l.teller), l.hour, c.things.indexOf(l.thing), l.value}[what];
    }

    int say(boolean word, int teller, int hour, int thing, int value) {
        if (!hasTeller(teller) || !hasThing(thing) || c.lines.size() == 60) {
            return -1;
        }
        Line l = new Line();
        l.word = word;
        l.teller = c.tellers.get(teller);
        l.hour = hour;
        l.thing = c.things.get(thing);
        l.value = value;
        l.said = true;
        if (hour < l.teller.begins || hour > l.teller.ends || value < -1 || value >= l.thing.ways || word && value == -1) {
            return -1;
        }
        for (Line other : c.lines) {
            if (other.teller == l.teller && other.hour > hour) {
                return -1;
            }
        }
        c.lines.add(l);
        return c.lines.size() - 1;
    }

    int saidLines() {
        return (int) c.lines.stream().filter(l -> l.said).count();
    }

    int undo() {
        if (saidLines() == 0) {
            return -1;
        }
        c.lines.remove(c.lines.size() - 1);
        return saidLines();
    }

    int heardLines() {
        return (int) c.lines.stream().filter(l -> l.hour <= c.heard).count();
    }

    int hear(int hour) {
        if (hour < 0 || hour > 199) {
            return -1;
        }
        c.heard = hour;
        return heardLines();
    }

    boolean right(Line l) {
        return l.value == l.thing.is;
    }

    boolean isNew(Line l) {
        return right(l) && !l.thing.withPolice(l.hour) && !l.thing.inPaper(l.hour);
    }

    int word(int line) {
        if (!isHeard(line) || !c.lines.get(line).word) {
            return -1;
        }
        Line l = c.lines.get(line);
        boolean first = true;
        boolean led = false;
        for (Line other : c.lines.subList(0, line)) {
            if (other.teller == l.teller && other.thing == l.thing) {
                first &= !other.word;
                led |= !other.word && other.value == l.value;
            }
        }
        boolean off = false;
        for (int h = l.teller.begins; h <= l.hour; h++) {
            off |= right(l) && !l.teller.onTape(h) && l.thing.withPolice(h);
        }
        boolean open = right(l) && l.thing.inPaper(l.hour);
        boolean clean = first && !led && !open && !off;
        return (right(l) ? 1 : 0) + (first ? 2 : 0) + (led ? 4 : 0) + (open ? 8 : 0) + (off ? 16 : 0) + (isNew(l) ? 32 : 0) + (clean ? 64 : 0);
    }

    int led(int line) {
        int by = -1;
        if (word(line) >= 0) {
            Line l = c.lines.get(line);
            for (int i = 0; i < line; i++) {
                Line o = c.lines.get(i);
                by = !o.word && o.teller == l.teller && o.thing == l.thing && o.value == l.value ? i : by;
            }
        }
        return by;
    }

    int words(int teller, int bits) {
        if (!hasTeller(teller) || bits < 1 || bits > 127) {
            return -1;
        }
        int many = 0;
        for (int i = 0; i < c.lines.size(); i++) {
            if (c.lines.get(i).teller == c.tellers.get(teller) && word(i) >= 0 && (word(i) & bits) == bits) {
                many++;
            }
        }
        return many;
    }

    boolean truth(int of10) {
        boolean good = of10 >= 1 && of10 <= 9;
        truth = good ? of10 : truth;
        return good;
    }

    boolean begin(int a, int b) {
        boolean good = a >= 1 && a <= 99 && b >= 1 && b <= 99;
        there = good ? a : there;
        not = good ? b : not;
        return good;
    }

    long odds(int teller, int kind, int what) {
        if (!hasTeller(teller) || kind < 0 || kind > 2 || what < 0 || what > 1) {
            return -1;
        }
        BigInteger up = BigInteger.valueOf(there);
        BigInteger down = BigInteger.valueOf(not);
        for (Object[] one : kind == 2 ? firstPages(c.tellers.get(teller)) : clean(teller, kind)) {
            boolean right = (Boolean) one[0];
            int ways = (Integer) one[1];
            up = up.multiply(BigInteger.valueOf((long) (right ? truth : 10 - truth) * ways));
            down = down.multiply(BigInteger.valueOf(right ? 10 : 10 * (ways - 1)));
        }
        BigInteger both = up.gcd(down);
        return (what == 0 ? up : down).divide(both).longValueExact();
    }

    private List<Object[]> clean(int teller, int kind) {
        List<Object[]> list = new ArrayList<>();
        for (int i = 0; i < c.lines.size(); i++) {
            int bits = c.lines.get(i).teller == c.tellers.get(teller) ? word(i) : -1;
            if (bits >= 0 && (kind == 0 ? (bits & 64) != 0 : (bits & 2) != 0 && (bits & 12) == 0)) {
                list.add(new Object[] {(bits & 1) != 0, c.lines.get(i).thing.ways});
            }
        }
        return list;
    }

    private List<Object[]> firstPages(Teller t) {
        List<Object[]> list = new ArrayList<>();
        List<Thing> seen = new ArrayList<>();
        for (Page p : c.pages) {
            if (p.teller == t && !seen.contains(p.thing)) {
                seen.add(p.thing);
                list.add(new Object[] {p.value == p.thing.is, p.thing.ways});
            }
        }
        return list;
    }

    List<Integer> saidOf(Teller t, Thing thing) {
        List<Integer> values = new ArrayList<>();
        for (Line l : c.lines) {
            if (l.word && l.teller == t && l.thing == thing && l.hour <= c.heard) {
                values.add(l.value);
            }
        }
        return values;
    }

    int page(int page) {
        if (page < 0 || page >= c.pages.size()) {
            return -1;
        }
        Page p = c.pages.get(page);
        List<Integer> said = saidOf(p.teller, p.thing);
        if (said.isEmpty()) {
            return 3;
        }
        if (said.get(said.size() - 1) == p.value) {
            return 0;
        }
        return said.contains(p.value) ? 1 : 2;
    }

    int left(int teller) {
        if (!hasTeller(teller)) {
            return -1;
        }
        Teller t = c.tellers.get(teller);
        int many = 0;
        for (Line l : c.lines) {
            if (l.word && l.teller == t && l.hour <= c.heard && !right(l)
                    && c.pages.stream().noneMatch(p -> p.teller == t && p.thing == l.thing && p.value == l.value)) {
                many++;
            }
        }
        return many;
    }

    int moved(int teller) {
        if (!hasTeller(teller)) {
            return -1;
        }
        List<Integer> places = new ArrayList<>();
        for (int i = 0; i < c.pages.size(); i++) {
            Page p = c.pages.get(i);
            if (p.teller == c.tellers.get(teller) && page(i) < 2) {
                for (int j = 0; j < c.lines.size(); j++) {
                    Line l = c.lines.get(j);
                    if (l.word && l.teller == p.teller && l.thing == p.thing && l.value == p.value && l.hour <= c.heard) {
                        places.add(j);
                        break;
                    }
                }
            }
        }
        int fewest = places.size();
        for (int keep = 0; keep < 1 << places.size(); keep++) {
            int last = -1;
            boolean inOrder = true;
            for (int i = 0; i < places.size() && inOrder; i++) {
                if ((keep >> i & 1) == 1) {
                    inOrder = places.get(i) >= last;
                    last = places.get(i);
                }
            }
            if (inOrder) {
                fewest = Math.min(fewest, places.size() - Integer.bitCount(keep));
            }
        }
        return fewest;
    }

    int story(int teller, int thing) {
        if (!hasTeller(teller) || !hasThing(thing)) {
            return -2;
        }
        List<Integer> said = saidOf(c.tellers.get(teller), c.things.get(thing));
        return said.isEmpty() ? -1 : said.get(said.size() - 1);
    }

    int clash(int a, int b) {
        if (!hasTeller(a) || !hasTeller(b) || a == b) {
            return -1;
        }
        int many = 0;
        for (int t = 0; t < c.things.size(); t++) {
            many += story(a, t) >= 0 && story(b, t) >= 0 && story(a, t) != story(b, t) ? 1 : 0;
        }
        return many;
    }

    int together() {
        int n = c.tellers.size();
        for (int size = n; size > 0; size--) {
            for (int set = 0; set < 1 << n; set++) {
                if (Integer.bitCount(set) == size && lies(set) == 0) {
                    return set;
                }
            }
        }
        return 0;
    }

    int lies(int set) {
        if (set < 0 || set >= 1 << c.tellers.size()) {
            return -1;
        }
        int many = 0;
        for (int t = 0; t < c.things.size(); t++) {
            // Of each thing, every set of tellers that may go on telling of it is tried.
            int fewest = 9;
            for (int keep = 0; keep < 1 << c.tellers.size(); keep++) {
                int value = -1;
                int leave = 0;
                boolean good = true;
                for (int i = 0; i < c.tellers.size(); i++) {
                    int story = (set >> i & 1) == 1 ? story(i, t) : -1;
                    if (story >= 0 && (keep >> i & 1) == 0) {
                        leave++;
                    } else if (story >= 0) {
                        good &= value == -1 || value == story;
                        value = story;
                    }
                }
                fewest = good ? Math.min(fewest, leave) : fewest;
            }
            many += fewest;
        }
        return many;
    }

    int supposed(int teller) {
        if (!hasTeller(teller)) {
            return -1;
        }
        Teller t = c.tellers.get(teller);
        int bits = 0;
        if (t.tape < 0 || t.begins >= t.tape) {
            return 0;
        }
        for (int thing = 0; thing < c.things.size(); thing++) {
            Thing th = c.things.get(thing);
            boolean asked = false;
            for (Line l : c.lines) {
                if (l.teller == t && l.thing == th && t.onTape(l.hour) && l.hour <= c.heard) {
                    if (!l.word) {
                        asked = true;
                    } else if (right(l) && !asked && th.withPolice(t.tape)) {
                        bits |= 1 << thing;
                    }
                }
            }
        }
        return bits;
    }

    int law(int line) {
        if (word(line) < 0) {
            return -1;
        }
        Line l = c.lines.get(line);
        int[] names = new int[10];
        names[0] = l.teller.age;
        names[1] = l.hour - l.teller.begins;
        names[2] = l.teller.offHours(l.hour);
        for (Line o : c.lines.subList(0, line)) {
            if (o.teller == l.teller && !o.word) {
                names[3]++;
                names[4] += o.value >= 0 ? 1 : 0;
            }
        }
        BigInteger value = c.law == null ? null : c.law.work(names);
        return value == null ? 50 : value.max(BigInteger.ZERO).min(BigInteger.valueOf(100)).intValue();
    }

    int draws(int teller, int seed, int many) {
        if (!hasTeller(teller) || seed < 0 || many < 1 || many > 99) {
            return -1;
        }
        long[] last = {seed};
        int good = 0;
        int his = words(teller, 3);
        for (int d = 0; d < many; d++) {
            int right = 0;
            for (int i = 0; i < c.lines.size(); i++) {
                Line l = c.lines.get(i);
                if (l.teller != c.tellers.get(teller) || word(i) < 0 || (word(i) & 2) == 0) {
                    continue;
                }
                int put = -1;
                for (Line o : c.lines.subList(0, i)) {
                    put = !o.word && o.teller == l.teller && o.thing == l.thing && o.value >= 0 ? o.value : put;
                }
                int said = -1;
                if (put >= 0 && number(last) % 100 < law(i)) {
                    said = put;
                } else {
                    said = (int) (number(last) % l.thing.ways);
                }
                right += said == l.thing.is ? 1 : 0;
            }
            good += right >= his ? 1 : 0;
        }
        return good;
    }

    private static long number(long[] last) {
        last[0] = (last[0] * 1103515245L + 12345L) % (1L << 31);
        return last[0] / 65536;
    }

    int[] namesOf(int teller, int by) {
        Teller t = c.tellers.get(teller);
        int[] n = new int[10];
        n[0] = t.age;
        if (by == 0) {
            for (Object[] one : firstPages(t)) {
                n[(Boolean) one[0] ? 5 : 6]++;
            }
        } else {
            n[1] = by == 2 ? t.ends - t.begins : t.tape >= 0 ? t.ends - t.tape : 0;
            List<Thing> said = new ArrayList<>();
            for (Line l : c.lines) {
                if (l.teller != t || l.hour > c.heard || by == 1 && !t.onTape(l.hour)) {
                    continue;
                }
                if (!l.word) {
                    n[3]++;
                    n[4] += l.value >= 0 ? 1 : 0;
                } else if (!said.contains(l.thing)) {
                    said.add(l.thing);
                    n[right(l) ? 5 : 6]++;
                    n[7] += isNew(l) ? 1 : 0;
                }
            }
        }
        for (int i = 0; i < c.pages.size(); i++) {
            if (c.pages.get(i).teller == t) {
                n[8] += by == 2 && page(i) >= 2 ? 1 : 0;
                n[9] += by != 1 ? 1 : 0;
            }
        }
        n[2] = by == 2 ? t.offHours(199) : 0;
        return n;
    }

    private static int so(Node e, int[] names) {
        BigInteger value = e == null ? null : e.work(names);
        return value == null || value.signum() == 0 ? 0 : 1;
    }

    int barred(int teller) {
        return hasTeller(teller) ? so(c.bar, namesOf(teller, 2)) : -1;
    }

    int jury(int teller, int by) {
        return hasTeller(teller) && by >= 0 && by <= 2 ? so(c.jury, namesOf(teller, by)) : -1;
    }

    int there(int set) {
        if (set < 0 || set >= 1 << c.tellers.size()) {
            return -1;
        }
        c.who = set;
        return Integer.bitCount(set);
    }

    int found(int by, int what) {
        if (by < 0 || by > 2 || what < 0 || what > 1) {
            return -1;
        }
        int bits = 0;
        for (int t = 0; t < c.tellers.size(); t++) {
            boolean found = jury(t, by) == 1 && barred(t) == 0;
            boolean was = (c.who >> t & 1) == 1;
            bits |= (what == 0 ? found && !was : was && !found) ? 1 << t : 0;
        }
        return bits;
    }

    int count(int what) {
        int[] counts = {c.things.size(), c.tellers.size(), c.lines.size(), heardLines(), c.pages.size(), c.knots, c.heard, saidLines()};
        return what >= 0 && what < 8 ? counts[what] : -1;
    }
}
