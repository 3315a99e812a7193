import java.util.List;

/** Boundary cases of 'Terms': words, numbers, blanks, the forms of LINES and of an E, and FAULT 1. */
final class TokenBoundsTest {
    private static final String HEAD = "thing a 4 is 2;teller p 9 begins 5 ends 8;";
    private static final List<String> COMPARISONS = List.of("<", "<=", "=", "<>", ">=", ">");
    private static final List<String> SIGNS = List.of("<", "<=", "=", "<>", ">=", ">", "+", "-", "*", "/", " and ", " or ");

    public static void main(String[] args) {
        words();
        lettersOfNames();
        numbers();
        blanks();
        lines();
        formsOfLines();
        sinceTwice();
        formsOfE();
        brackets();
        comparisons();
        nots();
        joinedSigns();
        names();
        badTokens();
        lengths();
        Check.end();
    }

    private static void words() {
        Check.sentence("Words: small letters in a row; W: one of 1 .. 6 letters, none of those of the language");
        Check.fault(1, "thing ^2 is 0;");
        Check.good(1, "thing a 2 is 0;");
        Check.good(1, "thing abcde 2 is 0;");
        Check.good(1, "thing abcdef 2 is 0;");
        Check.fault(1, "thing ^abcdefg 2 is 0;");
        Check.fault(1, "teller ^9 begins 5 ends 8;");
        Check.good(1, "teller z 9 begins 5 ends 8;");
        Check.good(1, "teller zzzzzz 9 begins 5 ends 8;");
        Check.fault(1, "teller ^zzzzzzz 9 begins 5 ends 8;");
        // A word goes on as long as there are small letters: a blank or a digit ends it.
        Check.fault(1, "thing abc ^def 2 is 0;");
        Check.good(1, "thing abcdef2is0;");
        Check.fault(1, "thing ^Abc 2 is 0;");
        Check.fault(1, "thing a^Bc 2 is 0;");
        Check.fault(1, "thing ^`a 2 is 0;");
        Check.fault(1, "thing a^{ 2 is 0;");
        for (String word : Model.LANGUAGE) {
            Check.fault(1, "thing ^" + word + " 2 is 0;");
            Check.fault(1, "teller ^" + word + " 9 begins 5 ends 8;");
            Check.fault(1, HEAD + "ask ^" + word + " 5 a;");
            Check.fault(1, HEAD + "ask p 5 ^" + word + ";");
            Check.fault(1, HEAD + "say ^" + word + " 5 a 1;");
            Check.fault(1, HEAD + "say p 5 ^" + word + " 1;");
            Check.fault(1, HEAD + "page ^" + word + " a 1;");
            Check.fault(1, HEAD + "page p ^" + word + " 1;");
            nearly(word + "x");
            nearly("x" + word);
            nearly(word.substring(1));
            nearly(word.substring(0, word.length() - 1));
        }
    }

    /** A word that is a letter away from one of the language. */
    private static void nearly(String word) {
        if (word.length() > 6) {
            Check.fault(1, "thing ^" + word + " 2 is 0;");
        } else if (!Model.LANGUAGE.contains(word)) {
            Check.good(1, "thing " + word + " 2 is 0;");
        }
    }

    /** Names that are alike up to their last letter are others. */
    private static void lettersOfNames() {
        Check.sentence("W: one of 1 .. 6 letters");
        SaidSo x = Check.told("thing a 2 is 0;thing aa 2 is 0;thing aaaaa 2 is 0;thing aaaaaa 2 is 0;thing aaaaab 2 is 0;thing zzzzzz 2 is 0;");
        String[] names = {"a", "aa", "aaaaa", "aaaaaa", "aaaaab", "zzzzzz"};
        for (int i = 0; i < names.length; i++) {
            Check.due("number of " + names[i], x.named(0, Check.letters(names[i])), i);
        }
        Check.due("number of aaa", x.named(0, Check.letters("aaa")), -1);
    }

    private static void numbers() {
        Check.sentence("N: digits, 0 .. 999");
        Check.good(1, "law 0;");
        Check.good(1, "law 999;");
        Check.fault(2, "law ^1000;");
        Check.fault(2, "law ^1001;");
        Check.good(1, "law 0999;");
        Check.good(1, "law " + "0".repeat(700) + "999;");
        Check.fault(2, "law ^" + "0".repeat(700) + "1000;");
        Check.fault(2, "law ^" + "9".repeat(700) + ";");
        // Numbers that a long, an int, a short or a byte would take for 1.
        for (String number : new String[] {"18446744073709551617", "4294967297", "65537", "257"}) {
            Check.fault(2, "thing a 2 is ^" + number + ";");
            Check.fault(2, "teller p ^" + number + " begins 5 ends 8;");
        }
        Check.fault(1, "law ^-1;");
        Check.fault(1, "law 1 ^1;");
        Check.fault(1, "thing a ^-2 is 0;");
        SaidSo x = Check.told("teller p 009 begins 00 ends 0199;jury 0999 - 998 = 0001;");
        Check.due("jury", x.jury(0, 2), 1);
        Check.due("age", x.teller(0, 0), 9);
        Check.due("end", x.teller(0, 2), 199);
    }

    private static void blanks() {
        Check.sentence("Blanks 10, 32");
        for (int sign = 0; sign < 256; sign++) {
            String text = "law 1 " + (char) sign + " ;";
            if (sign == 10 || sign == 32) {
                Check.good(1, text);
            } else if ("+-*/<=>;".indexOf(sign) >= 0) {
                Check.fault(1, "law 1 " + (char) sign + " ^;");
            } else if (sign != '^') {
                Check.fault(1, "law 1 ^" + (char) sign + " ;");
            } else {
                SaidSo x = new SaidSo();
                Check.due("tell '" + text + "'", Check.tell(x, text), -1);
                Check.due("place", x.fault(1), 6);
            }
        }
        Check.good(1, "\n \nlaw\n\n1  ;\n ");
        Check.good(1, "law1;");
        Check.good(3, "thing a 2is0;teller p 9begins5ends8tape5;say p5a1;");
        Check.fault(1, "^la w 1;");
        Check.fault(1, "law 1 ^2;");
    }

    private static void lines() {
        Check.sentence("A CASE, a TEXT: { LINE ';' }");
        Check.good(0, "");
        Check.good(0, " ");
        Check.good(0, " \n".repeat(400));
        Check.good(1, "law 1;");
        Check.good(2, "law 1;bar 1;");
        Check.fault(1, "^;");
        Check.fault(1, "law 1;^;");
        Check.fault(1, "^;law 1;");
        Check.fault(1, "law 1^");
        Check.fault(1, "law 1 \n ^");
        Check.fault(1, "law 1 ^bar 1;");
        Check.fault(1, "law 1;^x;");
        Check.fault(1, "law 1;^1;");
        // As many LINES of each kind as there may be.
        String text = Check.each("thing ", 'a', 8, " 2is0;") + Check.each("teller ", 'a', 5, " 9begins0ends0;")
                + "ask a0a;".repeat(40) + "page a a0;".repeat(20) + "law1;bar1;jury1;";
        Check.good(76, text);
        Check.good(76, text + "\n".repeat(800 - text.length()));
        Check.fault(1, text + "\n".repeat(799 - text.length()) + "^!");
    }

    /** Each LINE, of which any part may be missing or another one, and in which no sign more can stand. */
    private static void formsOfLines() {
        Check.sentence("LINE: thing W N is N { paper N | police N } | teller W N begins N ends N [ tape N ] | ask W N W [ N ] | say W N W N | page W W N | ( law | bar | jury ) E.");
        parts("thing b 4 is 2 ;");
        parts("thing b 4 is 2 paper 3 ;");
        parts("thing b 4 is 2 police 3 ;");
        parts("thing b 4 is 2 police 3 paper 0 ;");
        parts("teller q 9 begins 5 ends 8 ;");
        parts("teller q 9 begins 5 ends 8 tape 6 ;");
        parts("ask p 6 a ;");
        parts("ask p 6 a 3 ;");
        parts("say p 6 a 3 ;");
        parts("page p a 3 ;");
        parts("law 1 ;");
        parts("bar age ;");
        parts("jury ( 1 ) ;");
        Check.fault(1, HEAD + "say p 6 a^;");
        Check.fault(1, HEAD + "ask p 6 a 1 ^1;");
        Check.fault(1, HEAD + "say p 6 a 1 ^1;");
        Check.fault(1, HEAD + "page p a 1 ^1;");
        Check.fault(1, HEAD + "page p ^6 a 1;");
        Check.fault(1, "teller p 9 begins 5 ends 8 tape 6 ^tape 7;");
        Check.fault(1, "teller p 9 begins 5 ends 8 ^police 7;");
        Check.fault(1, "thing a 4 is 2 ^tape 7;");
        Check.fault(1, "teller p 9 ^ends 8 begins 5;");
    }

    private static void parts(String line) {
        String[] parts = line.split(" ");
        Check.good(3, HEAD + line);
        StringBuilder ahead = new StringBuilder(HEAD);
        for (String part : parts) {
            if (ahead.length() > HEAD.length()) {
                Check.fault(1, ahead + "^");
                Check.fault(1, ahead + " \n^");
                Check.fault(1, ahead + "^! " + part + " ;");
            }
            Check.fault(1, ahead + "^" + (part.equals("is") ? "its" : part.equals(";") ? "," : "is") + " 1 ;");
            ahead.append(part).append(' ');
        }
    }

    private static void sinceTwice() {
        Check.sentence("thing W N is N { paper N | police N }");
        int[][] want = {{-1, -1}, {3, -1}, {-1, 4}, {3, 4}, {3, 4}};
        String[] texts = {"", " paper 3", " police 4", " paper 3 police 4", " police 4 paper 3"};
        for (int i = 0; i < texts.length; i++) {
            SaidSo x = Check.told("thing a 2 is 0" + texts[i] + ";");
            Check.due("paper of '" + texts[i] + "'", x.look(0, 2), want[i][0]);
            Check.due("police of '" + texts[i] + "'", x.look(0, 3), want[i][1]);
        }
    }

    private static void formsOfE() {
        Check.sentence("E: A { or A }. A: B { and B }. B: not B | C. C: S [ ( < | <= | = | <> | >= | > ) S ]. S: T { ( + | - ) T }. T: P { ( * | / ) P }.");
        Check.fault(1, "law ^;");
        Check.fault(1, "law^");
        Check.good(1, "law 1;");
        Check.fault(1, "law ^!;");
        for (String sign : SIGNS) {
            Check.good(1, "law 1" + sign + "1;");
            Check.fault(1, "law 1" + sign + "^;");
            Check.fault(1, "law 1" + sign + "^");
            Check.fault(1, ("law ^" + sign + "1;").replace("^ ", " ^"));
            Check.fault(1, "law 1" + sign + "^)1;");
            for (String other : SIGNS) {
                Check.fault(1, ("law 1" + sign + " ^" + other + "1;").replace("^ ", " ^"));
            }
        }
        // Chains: none, one and many of each that may come again.
        for (String sign : List.of("+", "-", "*", "/", " and ", " or ")) {
            Check.good(1, "law 1" + (sign + "1").repeat(2) + ";");
            Check.good(1, "law 1" + (sign + "1").repeat(31) + ";");
            Check.fault(2, "law 1" + (sign + "1").repeat(31) + sign + "^1;");
        }
    }

    private static void brackets() {
        Check.sentence("P: N | NAME | '(' E ')'.");
        Check.good(1, "law (1);");
        Check.good(1, "law ((1));");
        Check.fault(1, "law (^);");
        Check.fault(1, "law (^;");
        Check.fault(1, "law (1^;");
        Check.fault(1, "law (1^");
        Check.fault(1, "law ((1)^;");
        Check.fault(1, "law 1^);");
        Check.fault(1, "law (1)^);");
        Check.fault(1, "law ^)1(;");
        Check.fault(1, "law 1^(1);");
        Check.fault(1, "law (1)^(1);");
        Check.fault(1, "law (1)^1;");
        Check.fault(1, "law (1 +^);");
        Check.fault(1, "law (1^;);");
        Check.good(1, "law (1 or 0) * (not 1 < 2);");
        // What was open in one LINE isn't in the next.
        Check.fault(1, "law (1);bar 1^);");
    }

    private static void comparisons() {
        Check.sentence("C: S [ ( < | <= | = | <> | >= | > ) S ]");
        for (String sign : COMPARISONS) {
            for (String other : COMPARISONS) {
                Check.fault(1, "law 1 " + sign + " 2 ^" + other + " 3;");
                Check.fault(1, "law 1 " + sign + " 2 + 2 * 3 ^" + other + " 3;");
                Check.fault(1, "law (1 " + sign + " 2 ^" + other + " 3);");
                Check.fault(1, "law not 1 " + sign + " 2 ^" + other + " 3;");
                Check.fault(1, "law 1 and 1 " + sign + " (2) ^" + other + " 3;");
                Check.good(1, "law (1 " + sign + " 2) " + other + " 3;");
                Check.good(1, "law 1 " + sign + " (2 " + other + " 3);");
                Check.good(1, "law 1 " + sign + " 2 and 2 " + other + " 3;");
                Check.good(1, "law 1 " + sign + " 2 or not 2 " + other + " 3;");
            }
        }
    }

    private static void nots() {
        Check.sentence("B: not B | C.");
        Check.good(1, "law not 1;");
        Check.good(1, "law not not 1;");
        Check.good(1, "law " + "not ".repeat(63) + "1;");
        Check.fault(2, "law " + "not ".repeat(64) + "^1;");
        Check.fault(1, "law not^;");
        Check.fault(1, "law 1 ^not;");
        Check.fault(1, "law 1 ^not 1;");
        Check.good(1, "law (not 1) and not 1 or not 1;");
        for (String sign : SIGNS) {
            boolean joins = sign.equals(" and ") || sign.equals(" or ");
            if (joins) {
                Check.good(1, "law 1" + sign + "not 1;");
            } else {
                Check.fault(1, "law 1" + sign + "^not 1;");
                Check.fault(1, "law not 1" + sign + "^not 1;");
                Check.fault(1, "law (1) and 1" + sign + "^not 1;");
            }
            Check.good(1, "law 1" + sign + "(not 1);");
            Check.fault(1, ("law not ^" + sign + "1;").replace("^ ", " ^"));
        }
    }

    private static void joinedSigns() {
        Check.sentence("A = (or > behind <) right behind < or > belongs to it.");
        for (String sign : new String[] {"<=", ">=", "<>"}) {
            SaidSo x = Check.told("law 1" + sign + "2;");
            Check.due("knots of " + sign, x.count(5), 3);
            String parts = sign.charAt(0) + " ^" + sign.charAt(1);
            Check.fault(1, "law 1" + parts + "2;");
            Check.fault(1, "law 1" + parts.replace(' ', '\n') + "2;");
            Check.fault(1, "law 1" + sign + "^=2;");
            Check.fault(1, "law 1" + sign + "^>2;");
            Check.fault(1, "law 1" + sign + "^<2;");
            // What is fed behind the text doesn't belong to its last sign.
            x = new SaidSo();
            Check.feed(x, "law 1" + sign + "2;");
            Check.due("tell(6)", x.tell(6), -1);
            Check.due("fault", x.fault(0), 1);
            Check.due("place", x.fault(1), 6);
        }
        for (String pair : new String[] {"==", "=<", "=>", "><", ">>", "<<"}) {
            Check.fault(1, "law 1" + pair.charAt(0) + "^" + pair.charAt(1) + "2;");
        }
        Check.fault(1, "law 1<^+2;");
        Check.fault(1, "law 1<^;");
        Check.fault(1, "law 1<=^;");
    }

    private static void names() {
        Check.sentence("NAME: age hours off asks led right wrong new put lines.");
        for (String word : Model.LANGUAGE) {
            if (Model.NAMES.contains(word)) {
                Check.good(1, "law " + word + ";");
                Check.fault(1, "^" + word + ";");
            } else if (word.equals("not")) {
                Check.fault(1, "law " + word + "^;");
            } else {
                Check.fault(1, "law ^" + word + ";");
            }
        }
        Check.fault(1, "law ^x;");
        Check.fault(1, "law ^ages;");
        Check.fault(1, "law ^ag;");
        Check.fault(1, "thing a 2 is 0;law ^a;");
    }

    private static void badTokens() {
        Check.sentence("1 a TOKEN that is none (a word of more than 6 letters, too) or can't stand there");
        for (String none : new String[] {"!", "\"", "#", "$", "%", "&", "'", ",", ".", ":", "?", "@", "A", "Z", "[", "]", "_", "`", "{", "~",
            "\0", "\t", "\r", "\u007f", "\u0080", "\u00ff", "abcdefg", "thingss", "tellers"}) {
            Check.fault(1, "^" + none);
            Check.fault(1, "law ^" + none);
            Check.fault(1, "law 1 ^" + none + ";");
            Check.fault(1, HEAD + "ask ^" + none + ";");
            Check.fault(1, HEAD + "ask p ^" + none + " a;");
        }
        Check.fault(1, "^" + "a".repeat(800));
        Check.fault(1, "^" + ";".repeat(800));
        Check.fault(1, "law 1;" + "^" + "a".repeat(794));
    }

    private static void lengths() {
        Check.sentence("(the length, if more must come)");
        Check.fault(1, "thing^");
        Check.fault(1, "thing ^");
        Check.fault(1, "thing" + " ".repeat(795) + "^");
        // The length is that of the text, not of all that was fed.
        SaidSo x = new SaidSo();
        Check.feed(x, "thing a 2 is 0;thing b 2 is 0;");
        Check.due("tell(27)", x.tell(27), -1);
        Check.due("fault", x.fault(0), 1);
        Check.due("place", x.fault(1), 27);
        // Cut in the midst of a word, a number, a sign or blanks: what was fed behind doesn't go on with it.
        String text = HEAD + "say p 0008 a 003;law (age<=100) and   999<>1;";
        int talk = HEAD.length() + "say p 0008 a 003;".length();
        for (int n = talk + 4; n < text.length(); n++) {
            x = new SaidSo();
            Check.feed(x, text);
            Check.due("tell(" + n + ")", x.tell(n), -1);
            Check.due("fault", x.fault(0), 1);
            int place = n;
            for (String word : new String[] {"age", "and"}) {
                // A part of it is another word, which can't stand there.
                int at = text.indexOf(word);
                place = n > at && n < at + 3 ? at : place;
            }
            Check.due("place", x.fault(1), place);
        }
        for (int n = HEAD.length() + 13; n < talk; n++) {
            x = new SaidSo();
            Check.feed(x, text);
            Check.due("tell(" + n + ")", x.tell(n), -1);
            Check.due("place", x.fault(1), n);
        }
    }
}
