/** Boundary cases of '==== 3.': PAGE LINES, LEFT OUT, MOVED, STORY, CLASH, TOGETHER, LIES, SUPPOSED. */
final class PageBoundsTest {
    private static final String TALK = "teller p 9 begins 0 ends 9;teller q 9 begins 0 ends 9;";
    private static final String HEAD = "thing a 9 is 2;thing b 4 is 1;" + TALK;
    private static final String FIVE = TALK + "teller r 9 begins 0 ends 9;teller s 9 begins 0 ends 9;teller t 9 begins 0 ends 9;";

    public static void main(String[] args) {
        states();
        oddsOfPage();
        leftOut();
        moved();
        movedKinds();
        movedMost();
        story();
        clash();
        together();
        leastBits();
        lies();
        liesMost();
        supposed();
        supposedHours();
        Check.end();
    }

    private static void page(String text, int want) {
        Check.due("page(0) of '" + text + "'", Check.told(HEAD + text).page(0), want);
    }

    private static void states() {
        Check.sentence("A PAGE LINE is, by HEARD WORDS of its TELLER of its THING: 0 AS SAID (his latest is that VALUE), 1 TURNED (another one is), 2 MENDED (none is, but there are some), 3 PUT (none at all).");
        // None at all: no words, words of another thing or by another, asks alone.
        page("page p a 3;", 3);
        page("say p 1 b 3;page p a 3;", 3);
        page("say q 1 a 3;page p a 3;", 3);
        page("ask p 1 a 3;page p a 3;", 3);
        // One word.
        page("say p 1 a 3;page p a 3;", 0);
        page("page p a 3;say p 1 a 3;", 0);
        page("say p 1 a 4;page p a 3;", 2);
        page("say p 1 a 2;page p a 3;", 2);
        page("say p 1 a 0;page p a 0;", 0);
        page("say p 1 a 8;page p a 8;", 0);
        page("say p 1 a 0;page p a 8;", 2);
        // The latest counts, and then any other.
        page("say p 1 a 3;say p 1 a 4;page p a 3;", 1);
        page("say p 1 a 4;say p 1 a 3;page p a 3;", 0);
        page("say p 1 a 3;say p 1 a 4;say p 2 a 3;page p a 3;", 0);
        page("say p 1 a 3;say p 1 a 4;say p 2 a 5;page p a 3;", 1);
        page("say p 1 a 5;say p 1 a 3;say p 2 a 4;page p a 3;", 1);
        page("say p 1 a 4;say p 1 a 5;page p a 3;", 2);
        page("say p 1 a 3;say q 1 a 4;say p 1 b 0;ask p 1 a 4;page p a 3;", 0);
        // Heard ones alone.
        SaidSo x = Check.told(HEAD + "say p 1 a 4;say p 3 a 3;say p 5 a 4;page p a 3;");
        int[] want = {3, 2, 2, 0, 0, 1};
        for (int hour = 0; hour < want.length; hour++) {
            x.hear(hour);
            Check.due("page(0), heard up to " + hour, x.page(0), want[hour]);
        }
    }

    private static void odds(SaidSo x, int teller, long there, long not) {
        Check.due("odds(" + teller + ", 2, 0)", x.odds(teller, 2, 0), there);
        Check.due("odds(" + teller + ", 2, 1)", x.odds(teller, 2, 1), not);
    }

    private static void oddsOfPage() {
        Check.sentence("ODDS of the page: for each THING the TELLER's first PAGE LINE of it as if it were CLEAN.");
        odds(Check.told(HEAD), 0, 1, 1);
        odds(Check.told(HEAD + "page p a 2;"), 0, 81, 10);
        odds(Check.told(HEAD + "page p a 3;"), 0, 9, 80);
        odds(Check.told(HEAD + "page q a 2;"), 0, 1, 1);
        // A second one of the thing, right or wrong, counts for nothing; nor does another's ahead of it count as his first.
        odds(Check.told(HEAD + "page p a 2;page p a 3;"), 0, 81, 10);
        odds(Check.told(HEAD + "page p a 3;page p a 2;"), 0, 9, 80);
        odds(Check.told(HEAD + "page q a 3;page p a 2;"), 0, 81, 10);
        odds(Check.told(HEAD + "page p a 2;page p b 1;"), 0, 729, 25);
        // Clean, though it was led, is public, off, or never said.
        odds(Check.told("thing a 9 is 2 paper 0 police 0;" + TALK + "say p 0 a 2;ask p 0 a 2;page p a 2;"), 0, 81, 10);
        SaidSo x = Check.told(HEAD + "say p 5 a 2;page p a 2;");
        x.hear(0);
        odds(x, 0, 81, 10);
        // As many as there may be: one of each thing.
        odds(Check.told(Check.each("thing ", 'a', 8, " 2 is 0;") + TALK + Check.each("page p ", 'a', 8, " 0;") + Check.each("page p ", 'a', 8, " 1;")
                + Check.each("page p ", 'a', 4, " 1;")), 0, 43046721, 390625);
    }

    private static void left(String text, int want) {
        Check.due("left(0) of '" + text + "'", Check.told(HEAD + text).left(0), want);
    }

    private static void leftOut() {
        Check.sentence("LEFT OUT: WORDS that aren't RIGHT on THINGS of which no PAGE LINE of his has that VALUE.");
        left("", 0);
        left("say p 1 a 2;", 0);
        left("say p 1 a 3;", 1);
        left("ask p 1 a 3;", 0);
        left("say q 1 a 3;", 0);
        left("say p 1 a 3;page p a 3;", 0);
        left("say p 1 a 3;page q a 3;", 1);
        left("say p 1 a 3;page p b 3;", 1);
        left("say p 1 a 3;page p a 2;", 1);
        left("say p 1 a 3;page p a 4;page p a 3;", 0);
        left("say p 1 a 3;say p 1 a 4;say p 1 b 0;page p a 4;", 2);
        left("say p 1 a 3;say p 1 a 3;", 2);
        left("say p 1 a 0;", 1);
        left("say p 1 a 8;", 1);
        SaidSo x = Check.told(HEAD + "say p 1 a 3;say p 2 a 4;");
        for (int hour = 0; hour < 4; hour++) {
            x.hear(hour);
            Check.due("left(0), heard up to " + hour, x.left(0), Math.min(hour, 2));
        }
        x = Check.told(HEAD);
        for (int i = 0; i < 60; i++) {
            x.say(true, 0, 5, 0, 3);
        }
        Check.due("sixty of them", x.left(0), 60);
        Check.due("the other's", x.left(1), 0);
    }

    private static void moved(String text, int want) {
        Check.due("moved(0) of '" + text + "'", Check.told(HEAD + text).moved(0), want);
    }

    private static void moved() {
        Check.sentence("MOVED: the fewest of his PAGE LINES (0 and 1) that must be moved so that those are in the order in which their VALUES were first said.");
        moved("", 0);
        moved("say p 1 a 0;", 0);
        moved("page p a 0;", 0);
        moved("say p 1 a 0;page p a 0;", 0);
        String talk = "say p 1 a 0;say p 1 a 1;say p 2 a 2;";
        moved(talk + "page p a 0;page p a 1;", 0);
        moved(talk + "page p a 1;page p a 0;", 1);
        moved(talk + "page p a 0;page p a 1;page p a 2;", 0);
        moved(talk + "page p a 0;page p a 2;page p a 1;", 1);
        moved(talk + "page p a 1;page p a 0;page p a 2;", 1);
        moved(talk + "page p a 1;page p a 2;page p a 0;", 1);
        moved(talk + "page p a 2;page p a 0;page p a 1;", 1);
        moved(talk + "page p a 2;page p a 1;page p a 0;", 2);
        // The same value twice has one place, so that neither must be moved.
        moved(talk + "page p a 0;page p a 0;", 0);
        moved(talk + "page p a 1;page p a 0;page p a 0;", 1);
        moved(talk + "page p a 1;page p a 1;page p a 0;", 1);
        moved(talk + "page p a 1;page p a 0;page p a 1;", 1);
        // When it was first said counts.
        moved(talk + "say p 3 a 0;page p a 0;page p a 2;", 0);
        moved(talk + "say p 3 a 0;page p a 2;page p a 0;", 1);
        // Values of two things are in one order.
        moved("say p 1 b 0;say p 1 a 0;page p a 0;page p b 0;", 1);
        moved("say p 1 b 0;say p 1 a 0;page p b 0;page p a 0;", 0);
    }

    private static void movedKinds() {
        Check.sentence("his PAGE LINES (0 and 1)");
        String talk = "say p 1 a 0;say p 1 a 1;say q 1 b 0;say q 1 a 1;";
        // 0 and 1 count: the latest value, and one that isn't.
        moved(talk + "page p a 1;page p a 0;", 1);
        // 2 and 3 don't, nor do another's.
        moved(talk + "page p a 1;page p a 5;", 0);
        moved(talk + "page p a 1;page p b 0;", 0);
        moved(talk + "page p a 1;page q a 0;page q b 0;", 0);
        moved(talk + "page p b 2;page p a 5;page q b 1;page p a 0;page p a 6;page p a 1;", 0);
        SaidSo x = Check.told(HEAD + "say p 1 a 0;say p 2 a 1;page p a 1;page p a 0;");
        int[] want = {0, 0, 1};
        for (int hour = 0; hour < 3; hour++) {
            x.hear(hour);
            Check.due("moved(0), heard up to " + hour, x.moved(0), want[hour]);
        }
    }

    private static void movedMost() {
        Check.sentence("MOVED: the fewest of his PAGE LINES");
        StringBuilder talk = new StringBuilder();
        StringBuilder back = new StringBuilder();
        StringBuilder on = new StringBuilder();
        for (int i = 0; i < 20; i++) {
            int at = 19 - i;
            talk.append(i < 9 ? "say p 1 a " + i : i < 18 ? "say p 1 b " + (i - 9) : "say p 1 c " + (i - 18)).append(';');
            on.append(i < 9 ? "page p a " + i : i < 18 ? "page p b " + (i - 9) : "page p c " + (i - 18)).append(';');
            back.append(at < 9 ? "page p a " + at : at < 18 ? "page p b " + (at - 9) : "page p c " + (at - 18)).append(';');
        }
        String head = "thing a 9 is 2;thing b 9 is 1;thing c 9 is 1;" + TALK;
        Check.due("twenty in order", Check.told(head + talk + on).moved(0), 0);
        Check.due("twenty backwards", Check.told(head + talk + back).moved(0), 19);
        // Those that stand in order may be few and far between.
        moved("say p 1 a 0;say p 1 a 1;say p 1 a 2;say p 1 a 3;say p 1 a 4;page p a 3;page p a 0;page p a 4;page p a 1;page p a 2;", 2);
    }

    private static void story() {
        Check.sentence("STORY of a TELLER: of each THING his latest WORD.");
        SaidSo x = Check.told(HEAD + "ask p 1 a 8;say q 1 a 7;say p 2 a 0;say p 2 a 8;say p 4 a 3;ask p 4 a 5;");
        int[] want = {-1, -1, 8, 8, 3};
        for (int hour = 0; hour < want.length; hour++) {
            x.hear(hour);
            Check.due("story(0, 0), heard up to " + hour, x.story(0, 0), want[hour]);
            Check.due("story(0, 1), never told", x.story(0, 1), -1);
            Check.due("story(1, 0)", x.story(1, 0), hour == 0 ? -1 : 7);
        }
        x.say(true, 0, 4, 0, 0);
        Check.due("story(0, 0), behind say()", x.story(0, 0), 0);
        x.undo();
        Check.due("story(0, 0), behind undo()", x.story(0, 0), 3);
    }

    private static void clash(String text, int want) {
        SaidSo x = Check.told(HEAD + text);
        Check.due("clash(0, 1) of '" + text + "'", x.clash(0, 1), want);
        Check.due("clash(1, 0) of '" + text + "'", x.clash(1, 0), want);
    }

    private static void clash() {
        Check.sentence("CLASH of two: THINGS of which both have one, unlike ones.");
        clash("", 0);
        clash("say p 1 a 1;", 0);
        clash("say q 1 a 0;", 0);
        clash("say p 1 a 1;say q 1 b 2;", 0);
        clash("say p 1 a 1;say q 1 a 1;", 0);
        clash("say p 1 a 1;say q 1 a 0;", 1);
        clash("say p 1 a 0;say q 1 a 8;", 1);
        clash("say p 1 a 1;say q 1 a 0;say p 1 b 1;", 1);
        clash("say p 1 a 1;say q 1 a 0;say p 1 b 1;say q 1 b 0;", 2);
        clash("say p 1 a 1;say q 1 a 0;say p 2 a 0;", 0);
        clash("say p 1 a 1;say q 1 a 1;say p 2 a 0;", 1);
        SaidSo x = Check.told(Check.each("thing ", 'a', 8, " 2 is 0;") + TALK);
        for (int thing = 0; thing < 8; thing++) {
            x.say(true, 0, 5, thing, 0);
            Check.due("clash(0, 1)", x.clash(0, 1), thing);
            x.say(true, 1, 5, thing, 1);
            Check.due("clash(0, 1)", x.clash(0, 1), thing + 1);
        }
    }

    private static void together() {
        Check.sentence("TOGETHER: the most TELLERS of which no two CLASH");
        Check.due("without a case", new SaidSo().together(), 0);
        Check.due("without tellers", Check.told("thing a 2 is 0;").together(), 0);
        Check.due("one", Check.told("teller p 9 begins 0 ends 9;").together(), 1);
        Check.due("two that say nothing", Check.told(HEAD).together(), 3);
        Check.due("five that say nothing", Check.told(FIVE).together(), 31);
        String say = "thing a 9 is 0;" + FIVE + "say p 1 a 0;say q 1 a 0;say r 1 a 0;say s 1 a 0;";
        Check.due("five that say the same", Check.told(say + "say t 1 a 0;").together(), 31);
        Check.due("all but the last", Check.told(say + "say t 1 a 1;").together(), 15);
        Check.due("all but the first", Check.told(say + "say t 1 a 1;say p 2 a 1;say q 2 a 1;say r 2 a 1;say s 2 a 1;say p 3 a 2;").together(), 30);
        Check.due("the last three", Check.told(say + "say t 1 a 0;say p 2 a 1;say q 2 a 1;").together(), 28);
    }

    private static void leastBits() {
        Check.sentence("of several the least bits");
        String say = "thing a 9 is 0;" + FIVE + "say p 1 a 0;say q 1 a 1;say r 1 a 2;say s 1 a 3;";
        Check.due("each by himself", Check.told(say + "say t 1 a 4;").together(), 1);
        Check.due("the last two", Check.told(say + "say t 1 a 3;").together(), 24);
        Check.due("the first and the last", Check.told(say + "say t 1 a 0;").together(), 17);
        Check.due("two pairs", Check.told(say + "say t 1 a 0;say q 2 a 2;").together(), 6);
        Check.due("two pairs", Check.told(say + "say t 1 a 0;say q 2 a 3;").together(), 10);
        Check.due("two pairs", Check.told(say + "say t 1 a 1;say p 2 a 3;").together(), 9);
        // Two clash, and the other three go with either.
        Check.due("four of five", Check.told("thing a 9 is 0;" + FIVE + "say s 1 a 0;say t 1 a 1;").together(), 15);
        Check.due("four of five", Check.told("thing a 9 is 0;" + FIVE + "say p 1 a 0;say t 1 a 1;").together(), 15);
        Check.due("four of five", Check.told("thing a 9 is 0;" + FIVE + "say p 1 a 0;say q 1 a 1;").together(), 29);
    }

    private static void lies() {
        Check.sentence("LIES of a set of TELLERS: the fewest WORDS of their STORIES to leave out so that no two of them CLASH.");
        Check.due("of nobody, without a case", new SaidSo().lies(0), 0);
        SaidSo x = Check.told("thing a 9 is 0;thing b 9 is 0;" + FIVE + "say p 1 a 0;say q 1 a 1;say r 1 a 1;say s 1 a 0;say t 1 b 0;say p 1 b 1;");
        int[][] want = {{0, 0}, {1, 0}, {2, 0}, {16, 0}, {3, 1}, {6, 0}, {7, 1}, {9, 0}, {15, 2}, {17, 1}, {18, 0}, {31, 3}};
        for (int[] pair : want) {
            Check.due("lies(" + pair[0] + ")", x.lies(pair[0]), pair[1]);
        }
        // Each by himself: all but one must go. The latest words count alone.
        x = Check.told("thing a 9 is 0;" + FIVE + "say p 1 a 0;say q 1 a 1;say r 1 a 2;say s 1 a 3;say t 1 a 8;");
        Check.due("lies(31)", x.lies(31), 4);
        x.say(true, 0, 2, 0, 8);
        Check.due("lies(31)", x.lies(31), 3);
        x.hear(0);
        Check.due("lies(31), nothing heard", x.lies(31), 0);
    }

    private static void liesMost() {
        Check.sentence("the fewest WORDS of their STORIES to leave out");
        SaidSo x = Check.told(Check.each("thing ", 'a', 8, " 9 is 0;") + FIVE);
        for (int i = 0; i < 40; i++) {
            x.say(true, i % 5, 5, i / 5, i % 5 + 4);
        }
        Check.due("eight things, four of five words each", x.lies(31), 32);
        Check.due("three of them", x.lies(7), 16);
        Check.due("two of them", x.lies(24), 8);
        Check.due("one of them", x.lies(8), 0);
    }

    private static void supposed(String text, int want) {
        Check.due("supposed(0) of '" + text + "'", Check.told(text).supposed(0), want);
    }

    private static void supposed() {
        Check.sentence("SUPPOSED (of a talk that began ahead of its TAPE): THINGS that the POLICE knew by the HOUR of TAPE and of which some WORD of his on TAPE is RIGHT without an ask of it to him on TAPE ahead of that.");
        String thing = "thing a 4 is 2 police 0;";
        String word = "say p 8 a 2;";
        // A talk that began ahead of its tape, at its hour, and one that was never taped.
        supposed(thing + "teller p 9 begins 7 ends 9 tape 8;" + word, 1);
        supposed(thing + "teller p 9 begins 8 ends 9 tape 8;" + word, 0);
        supposed(thing + "teller p 9 begins 7 ends 9;" + word, 0);
        supposed(thing + "teller p 9 begins 0 ends 9;" + word, 0);
        supposed("thing a 4 is 2 police 0;teller p 9 begins 0 ends 9 tape 0;" + word, 0);
        supposed("thing a 4 is 2 police 0;teller p 9 begins 0 ends 9 tape 1;" + word, 1);
        supposed("thing a 4 is 2 police 0;teller p 9 begins 0 ends 199 tape 199;say p 199 a 2;", 1);
        // What the police knew by then.
        String talk = "teller p 9 begins 5 ends 9 tape 7;teller q 9 begins 5 ends 9 tape 7;";
        supposed("thing a 4 is 2;" + talk + word, 0);
        supposed("thing a 4 is 2 paper 0;" + talk + word, 0);
        supposed("thing a 4 is 2 police 6;" + talk + word, 1);
        supposed("thing a 4 is 2 police 7;" + talk + word, 1);
        supposed("thing a 4 is 2 police 8;" + talk + word, 0);
        // Words: none, off tape, on it, wrong.
        supposed(thing + talk, 0);
        supposed(thing + talk + "say p 6 a 2;", 0);
        supposed(thing + talk + "say p 7 a 2;", 1);
        supposed(thing + talk + "say p 7 a 1;", 0);
        supposed(thing + talk + "say p 7 a 3;say p 7 a 2;", 1);
        supposed(thing + talk + "say p 6 a 2;say p 9 a 2;", 1);
        supposed(thing + talk + "say q 7 a 2;", 0);
        // Asks: off tape, on it, behind it, of another thing, to another.
        supposed(thing + talk + "ask p 6 a 2;say p 7 a 2;", 1);
        supposed(thing + talk + "ask p 7 a 2;say p 7 a 2;", 0);
        supposed(thing + talk + "ask p 7 a;say p 7 a 2;", 0);
        supposed(thing + talk + "ask p 7 a 3;say p 7 a 2;", 0);
        supposed(thing + talk + "say p 7 a 2;ask p 7 a;", 1);
        supposed(thing + talk + "say p 7 a 2;ask p 7 a;say p 8 a 2;", 1);
        supposed(thing + talk + "say p 7 a 1;ask p 7 a;say p 8 a 2;", 0);
        supposed(thing + talk + "ask q 7 a;say p 7 a 2;", 1);
        supposed(thing + "thing b 4 is 0;" + talk + "ask p 7 b;say p 7 a 2;", 1);
    }

    private static void supposedHours() {
        Check.sentence("THINGS that the POLICE knew by the HOUR of TAPE");
        StringBuilder things = new StringBuilder();
        StringBuilder words = new StringBuilder();
        for (int i = 0; i < 8; i++) {
            things.append("thing ").append((char) ('a' + i)).append(" 2 is 0 police ").append(i).append(';');
            words.append("say p 7 ").append((char) ('a' + i)).append(" 0;");
        }
        for (int tape = 1; tape <= 7; tape++) {
            supposed(things + "teller p 9 begins 0 ends 9 tape " + tape + ";" + words, (1 << tape + 1) - 1);
        }
        SaidSo x = Check.told(things + "teller p 9 begins 0 ends 9 tape 7;" + words);
        x.hear(6);
        Check.due("nothing heard on tape", x.supposed(0), 0);
    }
}
