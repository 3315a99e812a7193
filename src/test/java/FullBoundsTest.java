import java.util.Arrays;

/** As many of all as there may be at once, through every call; and the same with one of each. */
final class FullBoundsTest {
    public static void main(String[] args) {
        fullest();
        fullestOfOne();
        smallest();
        saidOrTold();
        Check.end();
    }

    /** Eight THINGS, five TELLERS, sixty TALK LINES, twenty PAGE LINES. */
    private static SaidSo full(String rest) {
        StringBuilder text = new StringBuilder(Check.each("thing ", 'a', 8, " 9is8;") + Check.each("teller ", 'a', 5, " 99begins0ends1tape1;"));
        for (int i = 0; i < 20; i++) {
            text.append("page ").append((char) ('a' + i % 5)).append(' ').append((char) ('a' + i % 8)).append("8;");
        }
        return Check.told(text + rest);
    }

    private static void fullest() {
        Check.promise(9, "A TALK LINE more (60 in all; value NONE: an ask without one): its number");
        // The n-th line: of teller n modulo 5, an ask in hour 0 of the first forty, then a word in hour 1.
        SaidSo x = full("law asks+led+hours+off;bar asks>8;jury right+lines>4;");
        for (int i = 0; i < 60; i++) {
            Check.due("say", i < 40 ? x.say(false, i % 5, 0, i / 5, i % 2 == 0 ? 8 : -1) : x.say(true, i % 5, 1, i % 8, 8), i);
        }
        Check.due("a 61st", x.say(true, 0, 1, 0, 8), -1);
        Check.due("lines", x.count(2), 60);
        for (int teller = 0; teller < 5; teller++) {
            tellerOf(x, teller);
        }
        Check.due("together", x.together(), 31);
        Check.due("lies", x.lies(31), 0);
        Check.due("wronged by both", x.found(2, 0), 31);
        Check.due("wronged by the page", x.found(0, 0), 31);
        Check.due("wronged by the tape", x.found(1, 0), 0);
        Check.due("line(59, 4)", x.line(59, 4), 8);
        Check.due("law(59)", x.law(59), 8 + 4 + 1 + 1);
    }

    /** Eight asks to each, of one THING each, half of them with what IS; then four words, all of them right. */
    private static void tellerOf(SaidSo x, int teller) {
        String of = " of teller " + teller;
        int words = 0;
        int led = 0;
        int pages = 0;
        for (int i = 40 + teller; i < 60; i += 5) {
            // The thing of line i was asked of in line 5 * thing + teller; it was put if that is even.
            int ask = i % 8 * 5 + teller;
            Check.due("led(" + i + ")", x.led(i), ask % 2 == 0 ? ask : -1);
            words++;
            led += ask % 2 == 0 ? 1 : 0;
        }
        for (int page = teller; page < 20; page += 5) {
            boolean said = false;
            for (int i = 40 + teller; i < 60; i += 5) {
                said |= i % 8 == page % 8;
            }
            Check.due("page(" + page + ")", x.page(page), said ? 0 : 3);
            pages++;
        }
        Check.due("words" + of, x.words(teller, 1 + 2 + 32), words);
        Check.due("led" + of, x.words(teller, 4), led);
        Check.due("left" + of, x.left(teller), 0);
        Check.due("barred" + of, x.barred(teller), 0);
        Check.due("jury by both" + of, x.jury(teller, 2), words + pages > 4 ? 1 : 0);
        Check.due("jury by the tape" + of, x.jury(teller, 1), words > 4 ? 1 : 0);
        Check.due("draws" + of, x.draws(teller, 0, 99) <= 99, true);
        Check.due("supposed" + of, x.supposed(teller), 0);
        Check.due("moved" + of, x.moved(teller) >= 0, true);
    }

    /** All sixty lines and all twenty page lines of one TELLER, the last one. */
    private static void fullestOfOne() {
        Check.sentence("TALK LINES, at most 40 in the CASE, numbered as they come");
        StringBuilder text = new StringBuilder("thing a 9is8;teller a 99begins0ends1;");
        text.append("say a0a8;".repeat(40)).append("page a a8;".repeat(20)).append("jury right+lines=21;bar wrong>0 or new<>1;");
        SaidSo x = Check.told(text.toString());
        for (int i = 40; i < 60; i++) {
            Check.due("say", x.say(true, 0, 1, 0, 7), i);
        }
        Check.due("heard up to 0", x.hear(0), 40);
        Check.due("right", x.words(0, 1), 40);
        Check.due("heard up to 1", x.hear(1), 60);
        Check.due("right", x.words(0, 1), 40);
        Check.due("story", x.story(0, 0), 7);
        Check.due("left", x.left(0), 20);
        Check.due("moved", x.moved(0), 0);
        Check.due("page(19)", x.page(19), 1);
        Check.due("jury", x.jury(0, 2), 1);
        Check.due("barred", x.barred(0), 0);
        Check.due("for", x.odds(0, 0, 0), 81);
        Check.due("against", x.odds(0, 0, 1), 10);
        Check.due("freed", x.there(1) + x.found(2, 1), 1);
    }

    /** A TALK LINE by say() is as one of the text: any number of them, from none to all. */
    private static void saidOrTold() {
        Check.promise(9, "A TALK LINE more (60 in all; value NONE: an ask without one): its number");
        String head = "thing a 4 is 2 police 3;thing b 9 is 8 paper 7;thing c 2 is 0;teller p 30 begins 2 ends 9;teller q 17 begins 2 ends 8 tape 5;";
        String[] lines = {"ask p 2 a 2;", "say p 3 a 2;", "say p 4 b 7;", "ask q 4 c;", "say q 4 b 1;", "ask q 5 b 8;", "say q 6 a 2;", "say q 6 b 8;", "say p 6 b 8;", "say q 7 b 3;",
            "say q 8 c 0;"};
        String rest = "page q b 8;page q b 1;page q a 2;page q c 1;page p b 7;page p a 2;law asks * 20 + hours;bar off > 7;jury right >= wrong;";
        String all = String.join("", lines);
        String due = State.of(Check.told(head + all + rest)).replaceAll("count\\(7\\) is .*\n", "");
        for (int told = 0; told <= lines.length; told++) {
            SaidSo x = Check.told(head + String.join("", Arrays.copyOf(lines, told)) + rest);
            for (int i = told; i < lines.length; i++) {
                String[] parts = lines[i].replace(";", "").split(" ");
                int value = parts.length < 5 ? -1 : Integer.parseInt(parts[4]);
                int got = x.say(parts[0].equals("say"), x.named(1, Check.letters(parts[1])), Integer.parseInt(parts[2]), x.named(0, Check.letters(parts[3])), value);
                Check.due("say '" + lines[i] + "'", got, i);
            }
            Check.due("count(7)", x.count(7), lines.length - told);
            State.same(told + " lines told, the others by say()", State.of(x).replaceAll("count\\(7\\) is .*\n", ""), due);
        }
        Check.due("something is supposed", Check.told(head + all + rest).supposed(1), 1);
        Check.due("something is moved", Check.told(head + all + rest).moved(1), 1);
        Check.due("something is turned", Check.told(head + all + rest).page(1), 1);
    }

    private static void smallest() {
        Check.sentence("THINGS, at most 8, numbered as they come");
        SaidSo x = Check.told("thing a 2 is 0;teller a 1 begins 0 ends 0;say a 0 a 0;page a a 0;law 1;bar 0;jury 1;");
        Check.due("word", x.word(0), 1 + 2 + 32 + 64);
        Check.due("for", x.odds(0, 0, 0), 9);
        Check.due("against", x.odds(0, 0, 1), 5);
        Check.due("page", x.page(0), 0);
        Check.due("law", x.law(0), 1);
        Check.due("wronged", x.found(2, 0), 1);
        Check.due("together", x.together(), 1);
        Check.due("lies", x.lies(1), 0);
    }
}
