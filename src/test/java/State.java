/** All that an object answers to calls that change nothing, in a text: a line for each call. */
final class State {
    private final SaidSo x;
    private final int things;
    private final int tellers;
    private final int lines;
    private final int pages;
    private final StringBuilder text = new StringBuilder();

    private State(SaidSo x) {
        this.x = x;
        things = x.count(0);
        tellers = x.count(1);
        lines = x.count(2);
        pages = x.count(4);
    }

    static String of(SaidSo x) {
        State state = new State(x);
        state.ofAll();
        state.ofThings();
        state.ofLines();
        state.ofTellers();
        state.ofSets();
        return state.text.toString();
    }

    private void add(String call, long answer) {
        text.append(call).append(" is ").append(answer).append('\n');
    }

    private void ofAll() {
        add("fault(0)", x.fault(0));
        add("fault(1)", x.fault(1));
        for (int what = 0; what < 8; what++) {
            add("count(" + what + ")", x.count(what));
        }
    }

    private void ofThings() {
        for (int thing = 0; thing <= things; thing++) {
            for (int what = 0; what < 4; what++) {
                add("look(" + thing + ", " + what + ")", Check.looked(x, thing, what));
            }
        }
        for (String name : new String[] {"a", "b", "c", "p", "q", "z"}) {
            add("named(0, " + name + ")", x.named(0, Check.letters(name)));
            add("named(1, " + name + ")", x.named(1, Check.letters(name)));
        }
    }

    private void ofLines() {
        for (int line = 0; line <= lines; line++) {
            for (int what = 0; what < 5; what++) {
                add("line(" + line + ", " + what + ")", x.line(line, what));
            }
            add("word(" + line + ")", x.word(line));
            add("led(" + line + ")", x.led(line));
            add("law(" + line + ")", x.law(line));
        }
        for (int page = 0; page <= pages; page++) {
            add("page(" + page + ")", x.page(page));
        }
    }

    private void ofTellers() {
        for (int teller = 0; teller <= tellers; teller++) {
            String of = "(" + teller;
            for (int what = 0; what < 4; what++) {
                add("teller" + of + ", " + what + ")", x.teller(teller, what));
            }
            for (int bit = 0; bit < 7; bit++) {
                add("words" + of + ", " + (1 << bit) + ")", x.words(teller, 1 << bit));
            }
            for (int kind = 0; kind < 3; kind++) {
                add("odds" + of + ", " + kind + ", 0)", x.odds(teller, kind, 0));
                add("odds" + of + ", " + kind + ", 1)", x.odds(teller, kind, 1));
                add("jury" + of + ", " + kind + ")", x.jury(teller, kind));
            }
            add("left" + of + ")", x.left(teller));
            add("moved" + of + ")", x.moved(teller));
            add("supposed" + of + ")", x.supposed(teller));
            add("barred" + of + ")", x.barred(teller));
            add("draws" + of + ", 5, 30)", x.draws(teller, 5, 30));
            for (int thing = 0; thing <= things; thing++) {
                add("story" + of + ", " + thing + ")", x.story(teller, thing));
            }
            add("clash(0, " + teller + ")", x.clash(0, teller));
        }
    }

    private void ofSets() {
        add("together()", x.together());
        for (int set = 0; set <= 1 << tellers; set++) {
            add("lies(" + set + ")", x.lies(set));
        }
        for (int by = 0; by < 3; by++) {
            add("found(" + by + ", 0)", x.found(by, 0));
            add("found(" + by + ", 1)", x.found(by, 1));
        }
    }

    /** Holds one state against another, line by line. */
    static void same(String behind, String got, String want) {
        String[] is = got.split("\n");
        String[] due = want.split("\n");
        Check.due("lines of the state behind " + behind, is.length, due.length);
        for (int i = 0; i < is.length && i < due.length; i++) {
            Check.due("behind " + behind + ": " + is[i] + ", not as it was: " + due[i], is[i].equals(due[i]), true);
        }
    }
}
