import java.util.NoSuchElementException;

/**
 * What somebody said in a room by hours, told as a text, and what his words are worth.
 * The words in capitals in the comments are those of the document's terms.
 */
public final class SaidSo {
    public static final int NONE = -1;

    private static final int NO_SUCH = -2;

    private static final int MOST_BYTES = 800;
    private static final int FED_AT_ONCE = 20;
    private static final int LAST_HOUR = 199;
    private static final int MOST_THINGS = 8;
    private static final int MOST_WAYS = 9;
    private static final int MOST_TELLERS = 5;
    private static final int MOST_AGE = 99;
    private static final int MOST_WRITTEN = 40;
    private static final int MOST_LINES = 60;
    private static final int MOST_PAGES = 20;
    private static final int MOST_LETTERS = 6;
    private static final int MOST_NUMBER = 999;
    private static final int MOST_OPEN = 8;
    private static final int MOST_KNOTS = 64;
    private static final int MOST_DRAWS = 99;
    private static final int MOST_ODDS = 99;

    private static final int RIGHT = 1;
    private static final int FIRST = 2;
    private static final int LED = 4;
    private static final int PUBLIC = 8;
    private static final int OFF = 16;
    private static final int NEW = 32;
    private static final int CLEAN = 64;

    private static final int AS_SAID = 0;
    private static final int TURNED = 1;
    private static final int MENDED = 2;
    private static final int PUT = 3;

    private static final int BY_PAGE = 0;
    private static final int BY_TAPE = 1;
    private static final int BY_BOTH = 2;

    private final Reader reader = new Reader();
    private Case now = new Case();
    private int truthOf10 = 9;
    private int oddsThere = 1;
    private int oddsNot = 1;
    private final Odds worth = new Odds();
    private final Names names = new Names();
    private final Draws drawing = new Draws();

    public SaidSo() {
    }

    public int feed(int a, int b, int c, int d, int e) {
        Tokens tape = reader.text;
        if (tape.fed + FED_AT_ONCE > MOST_BYTES) {
            return NONE;
        }
        tape.keepBytes(a);
        tape.keepBytes(b);
        tape.keepBytes(c);
        tape.keepBytes(d);
        tape.keepBytes(e);
        return tape.fed;
    }

    public int tell(int n) {
        if (n < 0 || n > reader.text.fed) {
            return NO_SUCH;
        }
        reader.text.cut(n);
        if (!reader.readCase()) {
            return NONE;
        }
        Case told = reader.told;
        reader.told = now;
        now = told;
        return now.size;
    }

    public int fault(int what) {
        switch (what) {
            case 0: return reader.fault;
            case 1: return reader.place;
            default: return NONE;
        }
    }

    public int named(int what, int letters) {
        switch (what) {
            case 0: return now.things.numberOf(letters);
            case 1: return now.tellers.numberOf(letters);
            default: return NONE;
        }
    }

    public int look(int thing, int what) throws IndexOutOfBoundsException, NoSuchElementException {
        Things things = now.things;
        if (!things.has(thing)) {
            throw new IndexOutOfBoundsException("no such thing");
        }
        switch (what) {
            case 0: return things.ways[thing];
            case 1: return things.is[thing];
            case 2: return things.paper[thing];
            case 3: return things.police[thing];
            default: throw new NoSuchElementException("no such what");
        }
    }

    public int teller(int teller, int what) {
        Tellers tellers = now.tellers;
        if (!tellers.has(teller)) {
            return NONE;
        }
        switch (what) {
            case 0: return tellers.age[teller];
            case 1: return tellers.begins[teller];
            case 2: return tellers.ends[teller];
            case 3: return tellers.tape[teller];
            default: return NONE;
        }
    }

    public int line(int line, int what) {
        if (!now.isHeard(line)) {
            return NO_SUCH;
        }
        Lines lines = now.lines;
        switch (what) {
            case 0: return lines.isWord[line] ? 1 : 0;
            case 1: return lines.teller[line];
            case 2: return lines.hour[line];
            case 3: return lines.thing[line];
            case 4: return lines.value[line];
            default: return NO_SUCH;
        }
    }

    public int say(boolean word, int teller, int hour, int thing, int value) {
        if (!now.canCome(word, teller, hour, thing, value)) {
            return NONE;
        }
        now.lines.add(word, teller, hour, thing, value);
        return now.lines.many - 1;
    }

    public int undo() {
        return now.lines.takeBack();
    }

    public int hear(int hour) {
        if (hour < 0 || hour > LAST_HOUR) {
            return NONE;
        }
        now.heard = hour;
        return now.heardLines();
    }

    public int word(int line) {
        return now.isHeardWord(line) ? now.bitsOf(line) : NONE;
    }

    public int led(int line) {
        return now.isHeardWord(line) ? now.ledBy(line) : NONE;
    }

    public int words(int teller, int bits) {
        if (!now.tellers.has(teller) || bits < 1 || bits > 127) {
            return NONE;
        }
        int many = 0;
        for (int i = 0; i < now.lines.many; i++) {
            if (now.isHeardWordOf(i, teller) && (now.bitsOf(i) & bits) == bits) {
                many++;
            }
        }
        return many;
    }

    public boolean truth(int of10) {
        if (of10 < 1 || of10 > 9) {
            return false;
        }
        truthOf10 = of10;
        return true;
    }

    public boolean begin(int there, int not) {
        if (there < 1 || there > MOST_ODDS || not < 1 || not > MOST_ODDS) {
            return false;
        }
        oddsThere = there;
        oddsNot = not;
        return true;
    }

    public long odds(int teller, int kind, int what) {
        if (!now.tellers.has(teller) || kind < 0 || kind > 2 || what < 0 || what > 1) {
            return NONE;
        }
        worth.start(oddsThere, oddsNot, truthOf10);
        if (kind == 2) {
            worth.takePage(now, teller);
        } else {
            worth.takeWords(now, teller, kind == 1);
        }
        return what == 0 ? worth.there : worth.not;
    }

    public int page(int line) {
        return now.pages.has(line) ? now.pageState(line) : NONE;
    }

    public int left(int teller) {
        return now.tellers.has(teller) ? now.leftOut(teller) : NONE;
    }

    public int moved(int teller) {
        return now.tellers.has(teller) ? now.pages.outOfOrder(now, teller) : NONE;
    }

    public int story(int teller, int thing) {
        if (!now.tellers.has(teller) || !now.things.has(thing)) {
            return NO_SUCH;
        }
        return now.storyValue(teller, thing);
    }

    public int clash(int a, int b) {
        if (!now.tellers.has(a) || !now.tellers.has(b) || a == b) {
            return NONE;
        }
        return now.clashes(a, b);
    }

    public int together() {
        now.findFoes();
        int best = 0;
        int sets = 1 << now.tellers.many;
        for (int set = 1; set < sets; set++) {
            if (Integer.bitCount(set) > Integer.bitCount(best) && now.goTogether(set)) {
                best = set;
            }
        }
        return best;
    }

    public int lies(int set) {
        if (!now.tellers.areThere(set)) {
            return NONE;
        }
        int many = 0;
        for (int thing = 0; thing < now.things.many; thing++) {
            many += now.liesOf(set, thing);
        }
        return many;
    }

    public int supposed(int teller) {
        if (!now.tellers.has(teller)) {
            return NONE;
        }
        int bits = 0;
        for (int i = 0; i < now.lines.many; i++) {
            if (now.isHeardWordOf(i, teller) && now.supposesMore(i)) {
                bits |= 1 << now.lines.thing[i];
            }
        }
        return bits;
    }

    public int law(int line) {
        return now.isHeardWord(line) ? names.lawAt(now, line) : NONE;
    }

    public int draws(int teller, int seed, int many) {
        if (!now.tellers.has(teller) || seed < 0 || many < 1 || many > MOST_DRAWS) {
            return NONE;
        }
        drawing.prepare(now, teller, names);
        return drawing.asGood(seed, many);
    }

    public int barred(int teller) {
        if (!now.tellers.has(teller)) {
            return NONE;
        }
        return names.bars(now, teller) ? 1 : 0;
    }

    public int jury(int teller, int by) {
        if (!now.tellers.has(teller) || by < BY_PAGE || by > BY_BOTH) {
            return NONE;
        }
        return names.finds(now, teller, by) ? 1 : 0;
    }

    public int there(int set) {
        if (!now.tellers.areThere(set)) {
            return NONE;
        }
        now.who = set;
        return Integer.bitCount(set);
    }

    public int found(int by, int what) {
        if (by < BY_PAGE || by > BY_BOTH || what < 0 || what > 1) {
            return NONE;
        }
        int set = 0;
        for (int teller = 0; teller < now.tellers.many; teller++) {
            if (names.finds(now, teller, by) && !names.bars(now, teller)) {
                set |= 1 << teller;
            }
        }
        return what == 0 ? set & ~now.who : now.who & ~set;
    }

    public int count(int what) {
        switch (what) {
            case 0: return now.things.many;
            case 1: return now.tellers.many;
            case 2: return now.lines.many;
            case 3: return now.heardLines();
            case 4: return now.pages.many;
            case 5: return now.knots;
            case 6: return now.heard;
            case 7: return now.lines.many - now.lines.written;
            default: return NONE;
        }
    }

    /** Whether something that came at an HOUR (NONE: never) was there by another. */
    private static boolean hadBy(int since, int hour) {
        return since != NONE && since <= hour;
    }

    private static boolean isIn(int set, int teller) {
        return (set >> teller & 1) == 1;
    }

    private static int find(int[] row, int many, int name) {
        for (int i = 0; i < many && i < row.length; i++) {
            if (row[i] == name) {
                return i;
            }
        }
        return NONE;
    }

    /** The THINGS, a row for each thing that is told of them. */
    private static final class Things {
        private int many = 0;
        private final int[] name = new int[MOST_THINGS];
        private final int[] ways = new int[MOST_THINGS];
        private final int[] is = new int[MOST_THINGS];
        private final int[] paper = new int[MOST_THINGS];
        private final int[] police = new int[MOST_THINGS];

        private boolean has(int thing) {
            return thing >= 0 && thing < many;
        }

        private int numberOf(int letters) {
            return find(name, many, letters);
        }

        private void add(int letters, int inWays, int soIt) {
            if (many >= MOST_THINGS) {
                return;
            }
            name[many] = letters;
            ways[many] = inWays;
            is[many] = soIt;
            paper[many] = NONE;
            police[many] = NONE;
            many++;
        }
    }

    /** The TELLERS and the HOURS of their talks. */
    private static final class Tellers {
        private int many = 0;
        private final int[] name = new int[MOST_TELLERS];
        private final int[] age = new int[MOST_TELLERS];
        private final int[] begins = new int[MOST_TELLERS];
        private final int[] ends = new int[MOST_TELLERS];
        private final int[] tape = new int[MOST_TELLERS];

        private boolean has(int teller) {
            return teller >= 0 && teller < many;
        }

        private int numberOf(int letters) {
            return find(name, many, letters);
        }

        private boolean areThere(int set) {
            return set >= 0 && set < 1 << many;
        }

        private void add(int letters, int years, int from, int to) {
            if (many >= MOST_TELLERS) {
                return;
            }
            name[many] = letters;
            age[many] = years;
            begins[many] = from;
            ends[many] = to;
            tape[many] = NONE;
            many++;
        }

        /** The last HOUR up to one of the talk that wasn't on TAPE; ahead of the talk: there is none. */
        private int lastOff(int teller, int hour) {
            return tape[teller] == NONE ? hour : Math.min(hour, tape[teller] - 1);
        }

        private int offHours(int teller, int hour) {
            return lastOff(teller, hour) - begins[teller] + 1;
        }
    }

    /** The TALK LINES: first those of the text, then those told by say(). */
    private static final class Lines {
        private int many = 0;
        private int written = 0;
        private final boolean[] isWord = new boolean[MOST_LINES];
        private final int[] teller = new int[MOST_LINES];
        private final int[] hour = new int[MOST_LINES];
        private final int[] thing = new int[MOST_LINES];
        private final int[] value = new int[MOST_LINES];

        private void add(boolean asWord, int ofTeller, int atHour, int ofThing, int itsValue) {
            if (many >= MOST_LINES) {
                return;
            }
            isWord[many] = asWord;
            teller[many] = ofTeller;
            hour[many] = atHour;
            thing[many] = ofThing;
            value[many] = itsValue;
            many++;
        }

        private int takeBack() {
            if (many <= written) {
                return NONE;
            }
            many--;
            return many - written;
        }

        /** The HOUR below which no LINE of a TELLER may come any more. */
        private int latestHour(int ofTeller) {
            for (int i = many - 1; i >= 0; i--) {
                if (teller[i] == ofTeller) {
                    return hour[i];
                }
            }
            return 0;
        }

        private boolean isSameTalk(int a, int b) {
            return teller[a] == teller[b] && thing[a] == thing[b];
        }
    }

    /** The PAGE LINES. */
    private static final class Pages {
        private int many = 0;
        private final int[] teller = new int[MOST_PAGES];
        private final int[] thing = new int[MOST_PAGES];
        private final int[] value = new int[MOST_PAGES];
        private final int[] saidAt = new int[MOST_PAGES];
        private final int[] inOrder = new int[MOST_PAGES];

        private boolean has(int page) {
            return page >= 0 && page < many;
        }

        private void add(int ofTeller, int ofThing, int itsValue) {
            if (many >= MOST_PAGES) {
                return;
            }
            teller[many] = ofTeller;
            thing[many] = ofThing;
            value[many] = itsValue;
            many++;
        }

        private int linesOf(int ofTeller) {
            int lines = 0;
            for (int i = 0; i < many; i++) {
                if (teller[i] == ofTeller) {
                    lines++;
                }
            }
            return lines;
        }

        /** Whether a PAGE LINE is the TELLER's, and his first one of its THING. */
        private boolean isFirstOf(int page, int ofTeller) {
            if (teller[page] != ofTeller) {
                return false;
            }
            for (int i = 0; i < page; i++) {
                if (teller[i] == ofTeller && thing[i] == thing[page]) {
                    return false;
                }
            }
            return true;
        }

        private boolean tells(int ofTeller, int ofThing, int itsValue) {
            for (int i = 0; i < many; i++) {
                if (teller[i] == ofTeller && thing[i] == ofThing && value[i] == itsValue) {
                    return true;
                }
            }
            return false;
        }

        /** MOVED: all that was said, less the longest row of it that is in order as it stands. */
        private int outOfOrder(Case told, int ofTeller) {
            int said = 0;
            for (int i = 0; i < many; i++) {
                int at = teller[i] == ofTeller ? told.firstSaid(i) : NONE;
                if (at != NONE) {
                    saidAt[said] = at;
                    said++;
                }
            }
            int longest = 0;
            for (int i = 0; i < said; i++) {
                inOrder[i] = 1 + longestAhead(i);
                longest = Math.max(longest, inOrder[i]);
            }
            return said - longest;
        }

        /** Two PAGE LINES with one VALUE were said at the same place, so either order of them is right. */
        private int longestAhead(int i) {
            int longest = 0;
            for (int j = 0; j < i; j++) {
                if (saidAt[j] <= saidAt[i]) {
                    longest = Math.max(longest, inOrder[j]);
                }
            }
            return longest;
        }
    }

    /** A CASE with what is HEARD of it and WHO was there. */
    private static final class Case {
        private final Things things = new Things();
        private final Tellers tellers = new Tellers();
        private final Lines lines = new Lines();
        private final Pages pages = new Pages();
        private final Formula chance = new Formula();
        private final Formula bar = new Formula();
        private final Formula verdict = new Formula();
        private int size = 0;
        private int knots = 0;
        private int heard = LAST_HOUR;
        private int who = 0;
        private final int[] foes = new int[MOST_TELLERS];
        private final int[] telling = new int[MOST_WAYS];

        private void clear() {
            things.many = 0;
            tellers.many = 0;
            lines.many = 0;
            lines.written = 0;
            pages.many = 0;
            chance.many = 0;
            bar.many = 0;
            verdict.many = 0;
            size = 0;
            knots = 0;
            heard = LAST_HOUR;
            who = 0;
        }

        private boolean canCome(boolean asWord, int teller, int hour, int thing, int value) {
            if (!tellers.has(teller) || !things.has(thing) || lines.many >= MOST_LINES) {
                return false;
            }
            if (hour < tellers.begins[teller] || hour > tellers.ends[teller] || hour < lines.latestHour(teller)) {
                return false;
            }
            return value == NONE ? !asWord : value >= 0 && value < things.ways[thing];
        }

        private boolean isHeard(int line) {
            return line >= 0 && line < lines.many && lines.hour[line] <= heard;
        }

        private boolean isHeardWord(int line) {
            return isHeard(line) && lines.isWord[line];
        }

        private boolean isHeardWordOf(int line, int teller) {
            return isHeard(line) && lines.isWord[line] && lines.teller[line] == teller;
        }

        private int heardLines() {
            int many = 0;
            for (int i = 0; i < lines.many; i++) {
                if (isHeard(i)) {
                    many++;
                }
            }
            return many;
        }

        private boolean isRight(int line) {
            return lines.value[line] == things.is[lines.thing[line]];
        }

        private boolean isNew(int line) {
            int thing = lines.thing[line];
            int hour = lines.hour[line];
            return isRight(line) && !hadBy(things.police[thing], hour) && !hadBy(things.paper[thing], hour);
        }

        private boolean isOff(int line) {
            int teller = lines.teller[line];
            int off = tellers.lastOff(teller, lines.hour[line]);
            return isRight(line) && off >= tellers.begins[teller] && hadBy(things.police[lines.thing[line]], off);
        }

        /** FIRST, where only LINES from an HOUR on count. */
        private boolean isFirst(int line, int since) {
            for (int i = 0; i < line; i++) {
                if (lines.isWord[i] && lines.isSameTalk(i, line) && lines.hour[i] >= since) {
                    return false;
                }
            }
            return true;
        }

        private int ledBy(int line) {
            for (int i = line - 1; i >= 0; i--) {
                if (!lines.isWord[i] && lines.isSameTalk(i, line) && lines.value[i] == lines.value[line]) {
                    return i;
                }
            }
            return NONE;
        }

        /** The VALUE of a WORD's THING that was PUT to him last ahead of it. */
        private int latestPut(int line) {
            for (int i = line - 1; i >= 0; i--) {
                if (!lines.isWord[i] && lines.isSameTalk(i, line) && lines.value[i] != NONE) {
                    return lines.value[i];
                }
            }
            return NONE;
        }

        private int bitsOf(int line) {
            int bits = isRight(line) ? RIGHT : 0;
            if (isFirst(line, 0)) {
                bits |= FIRST;
            }
            if (ledBy(line) != NONE) {
                bits |= LED;
            }
            if (isRight(line) && hadBy(things.paper[lines.thing[line]], lines.hour[line])) {
                bits |= PUBLIC;
            }
            if (isOff(line)) {
                bits |= OFF;
            }
            if (isNew(line)) {
                bits |= NEW;
            }
            return (bits & (FIRST | LED | PUBLIC | OFF)) == FIRST ? bits | CLEAN : bits;
        }

        /** The number of the HEARD WORD in which a PAGE LINE's VALUE was first said. */
        private int firstSaid(int page) {
            for (int i = 0; i < lines.many; i++) {
                if (isHeardWordOf(i, pages.teller[page]) && lines.thing[i] == pages.thing[page]
                        && lines.value[i] == pages.value[page]) {
                    return i;
                }
            }
            return NONE;
        }

        private int pageState(int page) {
            int latest = storyValue(pages.teller[page], pages.thing[page]);
            if (latest == NONE) {
                return PUT;
            }
            if (latest == pages.value[page]) {
                return AS_SAID;
            }
            return firstSaid(page) == NONE ? MENDED : TURNED;
        }

        private int leftOut(int teller) {
            int many = 0;
            for (int i = 0; i < lines.many; i++) {
                if (isHeardWordOf(i, teller) && !isRight(i)
                        && !pages.tells(teller, lines.thing[i], lines.value[i])) {
                    many++;
                }
            }
            return many;
        }

        private int storyValue(int teller, int thing) {
            for (int i = lines.many - 1; i >= 0; i--) {
                if (isHeardWordOf(i, teller) && lines.thing[i] == thing) {
                    return lines.value[i];
                }
            }
            return NONE;
        }

        private int clashes(int a, int b) {
            int many = 0;
            for (int thing = 0; thing < things.many; thing++) {
                int one = storyValue(a, thing);
                int other = storyValue(b, thing);
                if (one != NONE && other != NONE && one != other) {
                    many++;
                }
            }
            return many;
        }

        /** Of each TELLER, the bits of those with whom he has a CLASH. */
        private void findFoes() {
            for (int a = 0; a < tellers.many; a++) {
                foes[a] = 0;
                for (int b = 0; b < tellers.many; b++) {
                    if (a != b && clashes(a, b) > 0) {
                        foes[a] |= 1 << b;
                    }
                }
            }
        }

        private boolean goTogether(int set) {
            for (int teller = 0; teller < tellers.many; teller++) {
                if (isIn(set, teller) && (set & foes[teller]) != 0) {
                    return false;
                }
            }
            return true;
        }

        /** Of one THING, all but those who tell what most of the set tell must be left out. */
        private int liesOf(int set, int thing) {
            for (int value = 0; value < MOST_WAYS; value++) {
                telling[value] = 0;
            }
            int all = 0;
            int most = 0;
            for (int teller = 0; teller < tellers.many; teller++) {
                int value = isIn(set, teller) ? storyValue(teller, thing) : NONE;
                if (value >= 0 && value < MOST_WAYS) {
                    telling[value]++;
                    all++;
                    most = Math.max(most, telling[value]);
                }
            }
            return all - most;
        }

        /** Whether a WORD makes its THING one of the SUPPOSED. */
        private boolean supposesMore(int line) {
            int tape = tellers.tape[lines.teller[line]];
            if (tape <= tellers.begins[lines.teller[line]] || lines.hour[line] < tape) {
                return false;
            }
            if (!isRight(line) || !hadBy(things.police[lines.thing[line]], tape)) {
                return false;
            }
            for (int i = 0; i < line; i++) {
                if (!lines.isWord[i] && lines.isSameTalk(i, line) && lines.hour[i] >= tape) {
                    return false;
                }
            }
            return true;
        }
    }

    /** ODDS in least terms. At most eight WORDS count, a THING each, so that longs hold them. */
    private static final class Odds {
        private static final int MOST_STEPS = 200;

        private long there = 1;
        private long not = 1;
        private int truthful = 9;

        private void start(int forIt, int against, int of10) {
            truthful = of10;
            there = forIt;
            not = against;
            shorten();
        }

        private void takeWords(Case told, int teller, boolean with) {
            int unclean = with ? LED | PUBLIC : LED | PUBLIC | OFF;
            for (int i = 0; i < told.lines.many; i++) {
                if (told.isHeardWordOf(i, teller) && (told.bitsOf(i) & (FIRST | unclean)) == FIRST) {
                    takeOne(told.isRight(i), told.things.ways[told.lines.thing[i]]);
                }
            }
        }

        private void takePage(Case told, int teller) {
            Pages pages = told.pages;
            for (int i = 0; i < pages.many; i++) {
                if (pages.isFirstOf(i, teller)) {
                    int thing = pages.thing[i];
                    takeOne(pages.value[i] == told.things.is[thing], told.things.ways[thing]);
                }
            }
        }

        private void takeOne(boolean right, int ways) {
            there *= (right ? truthful : 10 - truthful) * ways;
            not *= right ? 10 : 10 * (ways - 1);
            shorten();
        }

        private void shorten() {
            long a = there;
            long b = not;
            for (int i = 0; i < MOST_STEPS && b > 0; i++) {
                long rest = a % b;
                a = b;
                b = rest;
            }
            if (a > 1) {
                there /= a;
                not /= a;
            }
        }
    }

    /** An E as its KNOTS, each behind those that it works on; none: there is no such LINE. */
    private static final class Formula {
        private static final long MOST_VALUE = 1000000000000L;
        // Beyond all that may be a value, so that it is never one.
        private static final long ERROR = -4000000000000000000L;

        private int many = 0;
        private final int[] knot = new int[MOST_KNOTS];

        private void add(int code) {
            if (many < MOST_KNOTS) {
                knot[many] = code;
                many++;
            }
        }

        /** The value, or ERROR (for no E too); values is a row to work in. */
        private long workOut(int[] names, long[] values) {
            int top = 0;
            for (int i = 0; i < many; i++) {
                int code = knot[i];
                boolean alone = code <= MOST_NUMBER || Tokens.isName(code);
                int takes = alone ? 0 : code == Tokens.NOT ? 1 : 2;
                if (top < takes || top - takes >= values.length) {
                    return ERROR;
                }
                top -= takes;
                if (takes == 0) {
                    values[top] = code <= MOST_NUMBER ? code : names[code - Tokens.FIRST_NAME];
                } else if (takes == 1) {
                    values[top] = values[top] == 0 ? 1 : 0;
                } else {
                    values[top] = join(code, values[top], values[top + 1]);
                }
                if (isBeyond(values[top])) {
                    return ERROR;
                }
                top++;
            }
            return top == 1 ? values[0] : ERROR;
        }

        private static boolean isBeyond(long value) {
            return value > MOST_VALUE || value < -MOST_VALUE;
        }

        private static long join(int sign, long a, long b) {
            switch (sign) {
                case Tokens.PLUS: return a + b;
                case Tokens.MINUS: return a - b;
                case Tokens.TIMES: return product(a, b);
                case Tokens.BY: return b == 0 ? ERROR : a / b;
                default: return holds(sign, a, b) ? 1 : 0;
            }
        }

        private static boolean holds(int sign, long a, long b) {
            switch (sign) {
                case Tokens.LESS: return a < b;
                case Tokens.LESS_OR_SAME: return a <= b;
                case Tokens.SAME: return a == b;
                case Tokens.UNLIKE: return a != b;
                case Tokens.MORE_OR_SAME: return a >= b;
                case Tokens.MORE: return a > b;
                case Tokens.AND: return a != 0 && b != 0;
                default: return a != 0 || b != 0;
            }
        }

        /** Looks ahead of it whether a product is too large, as a long might not hold it. */
        private static long product(long a, long b) {
            if (a == 0 || b == 0) {
                return 0;
            }
            return Math.abs(b) > MOST_VALUE / Math.abs(a) ? ERROR : a * b;
        }
    }

    /** What the NAMES of an E are worth, and what LAW, BAR and JURY say by them. */
    private static final class Names {
        private static final int AGE = 0;
        private static final int HOURS = 1;
        private static final int OFF_HOURS = 2;
        private static final int ASKS = 3;
        private static final int LED_ASKS = 4;
        private static final int RIGHT_ONES = 5;
        private static final int WRONG_ONES = 6;
        private static final int NEW_ONES = 7;
        private static final int PUT_ONES = 8;
        private static final int PAGE_LINES = 9;
        private static final int ALL = 10;
        private static final int EVEN = 50;
        private static final int SURE = 100;

        private final int[] value = new int[ALL];
        private final long[] values = new long[MOST_KNOTS];

        private int lawAt(Case told, int line) {
            setAtWord(told, line);
            long law = told.chance.workOut(value, values);
            if (law == Formula.ERROR) {
                return EVEN;
            }
            return (int) Math.max(0, Math.min(SURE, law));
        }

        private boolean bars(Case told, int teller) {
            setTalk(told, teller);
            return isSo(told.bar);
        }

        private boolean finds(Case told, int teller, int by) {
            if (by == BY_PAGE) {
                setPage(told, teller);
            } else if (by == BY_TAPE) {
                setTape(told, teller);
            } else {
                setTalk(told, teller);
            }
            return isSo(told.verdict);
        }

        private boolean isSo(Formula formula) {
            long worth = formula.workOut(value, values);
            return worth != Formula.ERROR && worth != 0;
        }

        private void start(Case told, int teller) {
            for (int i = 0; i < ALL; i++) {
                value[i] = 0;
            }
            value[AGE] = told.tellers.age[teller];
        }

        private void setAtWord(Case told, int line) {
            Lines lines = told.lines;
            int teller = lines.teller[line];
            start(told, teller);
            value[HOURS] = lines.hour[line] - told.tellers.begins[teller];
            value[OFF_HOURS] = told.tellers.offHours(teller, lines.hour[line]);
            for (int i = 0; i < line; i++) {
                if (lines.teller[i] == teller && !lines.isWord[i]) {
                    addAsk(lines.value[i]);
                }
            }
        }

        private void setTalk(Case told, int teller) {
            int end = told.tellers.ends[teller];
            start(told, teller);
            value[HOURS] = end - told.tellers.begins[teller];
            value[OFF_HOURS] = told.tellers.offHours(teller, end);
            addLines(told, teller, 0);
            value[PAGE_LINES] = told.pages.linesOf(teller);
            for (int i = 0; i < told.pages.many; i++) {
                if (told.pages.teller[i] == teller && told.pageState(i) >= MENDED) {
                    value[PUT_ONES]++;
                }
            }
        }

        private void setTape(Case told, int teller) {
            int tape = told.tellers.tape[teller];
            start(told, teller);
            if (tape != NONE) {
                value[HOURS] = told.tellers.ends[teller] - tape;
                addLines(told, teller, tape);
            }
        }

        private void setPage(Case told, int teller) {
            Pages pages = told.pages;
            start(told, teller);
            value[PAGE_LINES] = pages.linesOf(teller);
            for (int i = 0; i < pages.many; i++) {
                if (pages.isFirstOf(i, teller)) {
                    value[pages.value[i] == told.things.is[pages.thing[i]] ? RIGHT_ONES : WRONG_ONES]++;
                }
            }
        }

        private void addLines(Case told, int teller, int since) {
            Lines lines = told.lines;
            for (int i = 0; i < lines.many; i++) {
                if (lines.teller[i] != teller || lines.hour[i] < since || !told.isHeard(i)) {
                    continue;
                }
                if (!lines.isWord[i]) {
                    addAsk(lines.value[i]);
                } else if (told.isFirst(i, since)) {
                    addFirst(told.isRight(i), told.isNew(i));
                }
            }
        }

        private void addAsk(int put) {
            value[ASKS]++;
            if (put != NONE) {
                value[LED_ASKS]++;
            }
        }

        private void addFirst(boolean right, boolean isNew) {
            value[right ? RIGHT_ONES : WRONG_ONES]++;
            if (isNew) {
                value[NEW_ONES]++;
            }
        }
    }

    /** DRAWS: a TELLER's FIRST WORDS, a row for each thing that a draw needs of them. */
    private static final class Draws {
        private int many = 0;
        private int good = 0;
        private int last = 0;
        private final int[] ways = new int[MOST_THINGS];
        private final int[] is = new int[MOST_THINGS];
        private final int[] put = new int[MOST_THINGS];
        private final int[] chance = new int[MOST_THINGS];

        private void prepare(Case told, int teller, Names names) {
            many = 0;
            good = 0;
            for (int i = 0; i < told.lines.many; i++) {
                if (told.isHeardWordOf(i, teller) && told.isFirst(i, 0) && many < MOST_THINGS) {
                    int thing = told.lines.thing[i];
                    ways[many] = told.things.ways[thing];
                    is[many] = told.things.is[thing];
                    put[many] = told.latestPut(i);
                    chance[many] = names.lawAt(told, i);
                    many++;
                    good += told.isRight(i) ? 1 : 0;
                }
            }
        }

        private int asGood(int seed, int times) {
            int asGood = 0;
            last = seed;
            for (int i = 0; i < times; i++) {
                if (rightInOne() >= good) {
                    asGood++;
                }
            }
            return asGood;
        }

        private int rightInOne() {
            int right = 0;
            for (int i = 0; i < many; i++) {
                boolean follows = put[i] != NONE && drawBelow(100) < chance[i];
                int said = follows ? put[i] : drawBelow(ways[i]);
                right += said == is[i] ? 1 : 0;
            }
            return right;
        }

        private int drawBelow(int bound) {
            last = (last * 1103515245 + 12345) & 0x7fffffff;
            return bound > 0 ? last / 65536 % bound : 0;
        }
    }

    /**
     * The bytes that were fed, and the TOKENS into which a TEXT of them is cut.
     * Kinds are above MOST_NUMBER, so that a KNOT can be a number or a kind.
     */
    private static final class Tokens {
        private static final int END = 1000;
        private static final int BAD = 1001;
        private static final int NUMBER = 1002;
        private static final int NAME = 1003;

        private static final int SEMICOLON = 1010;
        private static final int OPEN = 1011;
        private static final int CLOSE = 1012;
        private static final int PLUS = 1013;
        private static final int MINUS = 1014;
        private static final int TIMES = 1015;
        private static final int BY = 1016;
        private static final int LESS = 1017;
        private static final int LESS_OR_SAME = 1018;
        private static final int SAME = 1019;
        private static final int UNLIKE = 1020;
        private static final int MORE_OR_SAME = 1021;
        private static final int MORE = 1022;

        // The kinds of these words are FIRST_WORD and on, in this order, each with a blank behind it.
        private static final String LANGUAGE = "thing is paper police teller begins ends tape ask say page law bar jury or and not age hours off asks led right wrong new put lines ";
        private static final int WORDS = 27;
        private static final int FIRST_WORD = 1100;
        private static final int THING = 1100;
        private static final int IS = 1101;
        private static final int PAPER = 1102;
        private static final int POLICE = 1103;
        private static final int TELLER = 1104;
        private static final int BEGINS = 1105;
        private static final int ENDS = 1106;
        private static final int TAPE = 1107;
        private static final int ASK = 1108;
        private static final int SAY = 1109;
        private static final int PAGE = 1110;
        private static final int LAW = 1111;
        private static final int BAR = 1112;
        private static final int JURY = 1113;
        private static final int OR = 1114;
        private static final int AND = 1115;
        private static final int NOT = 1116;
        private static final int FIRST_NAME = 1117;
        private static final int LAST_NAME = 1126;

        private final int[] words = new int[WORDS];
        private final int[] bytes = new int[MOST_BYTES];
        private int fed = 0;
        private int length = 0;
        private int at = 0;
        private int many = 0;
        // The last TOKEN is END: it takes no byte.
        private final int[] kinds = new int[MOST_BYTES + 1];
        private final int[] values = new int[MOST_BYTES + 1];
        private final int[] places = new int[MOST_BYTES + 1];
        private int next = 0;
        private int kind = END;
        private int value = 0;
        private int place = 0;

        private Tokens() {
            int word = 0;
            int letters = 0;
            for (int i = 0; i < LANGUAGE.length() && word < WORDS; i++) {
                char sign = LANGUAGE.charAt(i);
                if (sign == ' ') {
                    word++;
                    letters = 0;
                } else {
                    words[word] |= inPlace(sign, letters);
                    letters++;
                }
            }
        }

        private static boolean isName(int kind) {
            return kind >= FIRST_NAME && kind <= LAST_NAME;
        }

        private static boolean isLetter(int sign) {
            return sign >= 'a' && sign <= 'z';
        }

        private static boolean isDigit(int sign) {
            return sign >= '0' && sign <= '9';
        }

        /** A letter in the five bits that are its own as named() has them. */
        private static int inPlace(int letter, int number) {
            return number < MOST_LETTERS ? (letter - 'a' + 1) << 5 * (MOST_LETTERS - 1 - number) : 0;
        }

        private void keepBytes(int four) {
            for (int shift = 24; shift >= 0 && fed < MOST_BYTES; shift -= 8) {
                bytes[fed] = (four >> shift) & 255;
                fed++;
            }
        }

        /** Cuts the first bytes into TOKENS and forgets all bytes; the first TOKEN stands next. */
        private void cut(int first) {
            length = Math.min(first, fed);
            fed = 0;
            at = 0;
            many = 0;
            do {
                cutOne();
                kinds[many] = kind;
                values[many] = value;
                places[many] = place;
                many++;
            } while (kind != END && many <= MOST_BYTES);
            next = -1;
            step();
        }

        private void step() {
            if (next + 1 < many) {
                next++;
                kind = kinds[next];
                value = values[next];
                place = places[next];
            }
        }

        private void cutOne() {
            while (at < length && (bytes[at] == ' ' || bytes[at] == '\n')) {
                at++;
            }
            place = at;
            value = 0;
            if (at >= length) {
                kind = END;
            } else if (isLetter(bytes[at])) {
                cutWord();
            } else if (isDigit(bytes[at])) {
                cutNumber();
            } else {
                cutSign();
            }
        }

        private void cutWord() {
            int letters = 0;
            while (at < length && isLetter(bytes[at])) {
                value |= inPlace(bytes[at], letters);
                letters++;
                at++;
            }
            int known = find(words, WORDS, value);
            kind = letters > MOST_LETTERS ? BAD : known == NONE ? NAME : FIRST_WORD + known;
        }

        private void cutNumber() {
            while (at < length && isDigit(bytes[at])) {
                // However many digits there are, one more than the most is enough to tell that it is too much.
                value = Math.min(MOST_NUMBER + 1, value * 10 + bytes[at] - '0');
                at++;
            }
            kind = NUMBER;
        }

        private void cutSign() {
            int sign = bytes[at];
            at++;
            switch (sign) {
                case ';': kind = SEMICOLON; break;
                case '(': kind = OPEN; break;
                case ')': kind = CLOSE; break;
                case '+': kind = PLUS; break;
                case '-': kind = MINUS; break;
                case '*': kind = TIMES; break;
                case '/': kind = BY; break;
                case '=': kind = SAME; break;
                case '<': kind = goesOn('=') ? LESS_OR_SAME : goesOn('>') ? UNLIKE : LESS; break;
                case '>': kind = goesOn('=') ? MORE_OR_SAME : MORE; break;
                default: kind = BAD;
            }
        }

        private boolean goesOn(int sign) {
            if (at >= length || bytes[at] != sign) {
                return false;
            }
            at++;
            return true;
        }
    }

    /** Reads a TEXT into a CASE up to its first FAULT. */
    private static final class Reader {
        private static final int BAD_TOKEN = 1;
        private static final int TOO_MUCH = 2;
        private static final int TOLD_ALREADY = 3;
        private static final int NOT_TOLD = 4;
        private static final int TOO_EARLY = 5;

        private static final int OR_RANK = 1;
        private static final int AND_RANK = 2;
        private static final int NOT_RANK = 3;
        private static final int COMPARE_RANK = 4;
        private static final int SUM_RANK = 5;
        private static final int TERM_RANK = 6;

        private final Tokens text = new Tokens();
        // Not the CASE that is asked: that one stays as it is if the TEXT has a FAULT.
        private Case told = new Case();
        private int fault = 0;
        private int place = NONE;
        // What the token that was taken last is worth: a number, a name's letters, or who or what bears it.
        private int taken = 0;
        private final int[] held = new int[MOST_KNOTS + MOST_OPEN];
        private int holds = 0;
        private int open = 0;
        private boolean valueIsDue = true;
        private boolean notMayCome = true;

        private boolean readCase() {
            told.clear();
            fault = 0;
            place = NONE;
            boolean good = true;
            for (int i = 0; i < MOST_BYTES && good && text.kind != Tokens.END; i++) {
                good = readLine() && take(Tokens.SEMICOLON);
                told.size++;
            }
            told.lines.written = told.lines.many;
            return good;
        }

        private boolean readLine() {
            switch (text.kind) {
                case Tokens.THING: return readThing();
                case Tokens.TELLER: return readTeller();
                case Tokens.ASK: return readTalk(false);
                case Tokens.SAY: return readTalk(true);
                case Tokens.PAGE: return readPage();
                case Tokens.LAW: return readFormula(told.chance);
                case Tokens.BAR: return readFormula(told.bar);
                case Tokens.JURY: return readFormula(told.verdict);
                default: return wrong(BAD_TOKEN);
            }
        }

        private boolean wrong(int what) {
            fault = what;
            place = text.place;
            return false;
        }

        private boolean take(int kind) {
            if (text.kind != kind) {
                return wrong(BAD_TOKEN);
            }
            taken = text.value;
            text.step();
            return true;
        }

        private boolean takeNumber(int least, int most) {
            if (text.kind == Tokens.NUMBER && (text.value < least || text.value > most)) {
                return wrong(TOO_MUCH);
            }
            return take(Tokens.NUMBER);
        }

        private boolean takeHour(int teller) {
            int hour = text.value;
            boolean ofTalk = hour >= told.tellers.begins[teller] && hour <= told.tellers.ends[teller];
            if (text.kind == Tokens.NUMBER && ofTalk && hour < told.lines.latestHour(teller)) {
                return wrong(TOO_EARLY);
            }
            return takeNumber(told.tellers.begins[teller], told.tellers.ends[teller]);
        }

        /** A name that must be new, so that it has no number yet. */
        private boolean takeNewName(int number) {
            if (text.kind == Tokens.NAME && number != NONE) {
                return wrong(TOLD_ALREADY);
            }
            return take(Tokens.NAME);
        }

        /** A name that must be told, which its number shows. */
        private boolean takeOldName(int number) {
            if (text.kind == Tokens.NAME && number == NONE) {
                return wrong(NOT_TOLD);
            }
            boolean good = take(Tokens.NAME);
            taken = number;
            return good;
        }

        private boolean takeTeller() {
            return takeOldName(told.tellers.numberOf(text.value));
        }

        private boolean takeThing() {
            return takeOldName(told.things.numberOf(text.value));
        }

        private boolean takeValue(int thing) {
            return takeNumber(0, told.things.ways[thing] - 1);
        }

        private boolean readThing() {
            Things things = told.things;
            if (things.many >= MOST_THINGS) {
                return wrong(TOO_MUCH);
            }
            text.step();
            if (!takeNewName(things.numberOf(text.value))) {
                return false;
            }
            int name = taken;
            if (!takeNumber(2, MOST_WAYS)) {
                return false;
            }
            int ways = taken;
            if (!take(Tokens.IS) || !takeNumber(0, ways - 1)) {
                return false;
            }
            things.add(name, ways, taken);
            boolean good = true;
            // There are two at most: a third one is told already.
            for (int i = 0; i < 3 && good; i++) {
                if (text.kind == Tokens.PAPER) {
                    good = takeSince(things.paper);
                } else if (text.kind == Tokens.POLICE) {
                    good = takeSince(things.police);
                }
            }
            return good;
        }

        /** Since when the paper or the police had the THING that was told last. */
        private boolean takeSince(int[] row) {
            int thing = told.things.many - 1;
            if (!told.things.has(thing) || row[thing] != NONE) {
                return wrong(TOLD_ALREADY);
            }
            text.step();
            if (!takeNumber(0, LAST_HOUR)) {
                return false;
            }
            row[thing] = taken;
            return true;
        }

        private boolean readTeller() {
            Tellers tellers = told.tellers;
            if (tellers.many >= MOST_TELLERS) {
                return wrong(TOO_MUCH);
            }
            text.step();
            if (!takeNewName(tellers.numberOf(text.value))) {
                return false;
            }
            int name = taken;
            if (!takeNumber(1, MOST_AGE)) {
                return false;
            }
            int age = taken;
            if (!take(Tokens.BEGINS) || !takeNumber(0, LAST_HOUR)) {
                return false;
            }
            int begins = taken;
            if (!take(Tokens.ENDS) || !takeNumber(begins, LAST_HOUR)) {
                return false;
            }
            int ends = taken;
            tellers.add(name, age, begins, ends);
            if (text.kind != Tokens.TAPE) {
                return true;
            }
            text.step();
            if (!takeNumber(begins, ends)) {
                return false;
            }
            tellers.tape[tellers.many - 1] = taken;
            return true;
        }

        private boolean readTalk(boolean asWord) {
            if (told.lines.many >= MOST_WRITTEN) {
                return wrong(TOO_MUCH);
            }
            text.step();
            if (!takeTeller()) {
                return false;
            }
            int teller = taken;
            if (!takeHour(teller)) {
                return false;
            }
            int hour = taken;
            if (!takeThing()) {
                return false;
            }
            int thing = taken;
            int value = NONE;
            if (asWord || text.kind == Tokens.NUMBER) {
                if (!takeValue(thing)) {
                    return false;
                }
                value = taken;
            }
            told.lines.add(asWord, teller, hour, thing, value);
            return true;
        }

        private boolean readPage() {
            if (told.pages.many >= MOST_PAGES) {
                return wrong(TOO_MUCH);
            }
            text.step();
            if (!takeTeller()) {
                return false;
            }
            int teller = taken;
            if (!takeThing()) {
                return false;
            }
            int thing = taken;
            if (!takeValue(thing)) {
                return false;
            }
            told.pages.add(teller, thing, taken);
            return true;
        }

        /** An E: signs are held until all that they work on has come, the tighter ones first. */
        private boolean readFormula(Formula formula) {
            if (formula.many > 0) {
                return wrong(TOLD_ALREADY);
            }
            text.step();
            holds = 0;
            open = 0;
            valueIsDue = true;
            notMayCome = true;
            boolean good = true;
            for (int i = 0; i <= MOST_BYTES && good && !formulaEnds(); i++) {
                if (valueIsDue) {
                    good = readValue(formula);
                } else {
                    good = text.kind == Tokens.CLOSE ? readClose(formula) : readSign(formula);
                }
            }
            release(formula, OR_RANK);
            return good;
        }

        private boolean formulaEnds() {
            return !valueIsDue && open == 0 && text.kind == Tokens.SEMICOLON;
        }

        private boolean readValue(Formula formula) {
            int kind = text.kind;
            if (kind == Tokens.OPEN) {
                return readOpen();
            }
            if (kind == Tokens.NOT && notMayCome) {
                return addKnot() && hold(kind);
            }
            if (kind == Tokens.NUMBER && text.value > MOST_NUMBER) {
                return wrong(TOO_MUCH);
            }
            if (kind != Tokens.NUMBER && !Tokens.isName(kind)) {
                return wrong(BAD_TOKEN);
            }
            if (!addKnot()) {
                return false;
            }
            formula.add(kind == Tokens.NUMBER ? text.value : kind);
            valueIsDue = false;
            text.step();
            return true;
        }

        private boolean readOpen() {
            if (open >= MOST_OPEN) {
                return wrong(TOO_MUCH);
            }
            open++;
            notMayCome = true;
            return hold(Tokens.OPEN);
        }

        private boolean readClose(Formula formula) {
            release(formula, OR_RANK);
            // What is left on top is the '(' that this one closes.
            if (open == 0 || holds == 0) {
                return wrong(BAD_TOKEN);
            }
            holds--;
            open--;
            text.step();
            return true;
        }

        private boolean readSign(Formula formula) {
            int kind = text.kind;
            int rank = rankOf(kind);
            if (rank == 0 || rank == NOT_RANK) {
                return wrong(BAD_TOKEN);
            }
            release(formula, rank == COMPARE_RANK ? SUM_RANK : rank);
            if (rank == COMPARE_RANK && holds > 0 && rankOf(held[holds - 1]) == COMPARE_RANK) {
                return wrong(BAD_TOKEN);
            }
            valueIsDue = true;
            notMayCome = rank < NOT_RANK;
            return addKnot() && hold(kind);
        }

        private boolean addKnot() {
            if (told.knots >= MOST_KNOTS) {
                return wrong(TOO_MUCH);
            }
            told.knots++;
            return true;
        }

        private boolean hold(int kind) {
            if (holds >= held.length) {
                return wrong(TOO_MUCH);
            }
            held[holds] = kind;
            holds++;
            text.step();
            return true;
        }

        /** Signs of a rank and of tighter ones have all that they work on, back to the last '(' open. */
        private void release(Formula formula, int rank) {
            while (holds > 0 && rankOf(held[holds - 1]) >= rank) {
                holds--;
                formula.add(held[holds]);
            }
        }

        private static int rankOf(int kind) {
            switch (kind) {
                case Tokens.OR: return OR_RANK;
                case Tokens.AND: return AND_RANK;
                case Tokens.NOT: return NOT_RANK;
                case Tokens.PLUS:
                case Tokens.MINUS: return SUM_RANK;
                case Tokens.TIMES:
                case Tokens.BY: return TERM_RANK;
                default: return kind >= Tokens.LESS && kind <= Tokens.MORE ? COMPARE_RANK : 0;
            }
        }
    }
}
