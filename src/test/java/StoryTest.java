/** Promises 21 to 25: story, clash, together, lies, supposed. */
final class StoryTest {
    private static final String HEAD = "thing a 4 is 2;thing b 4 is 1;"
            + "teller p 9 begins 0 ends 9;teller q 9 begins 0 ends 9;teller r 9 begins 0 ends 9;"
            + "teller s 9 begins 0 ends 9;teller t 9 begins 0 ends 9;";

    public static void main(String[] args) {
        stories();
        clashes();
        together();
        lies();
        supposed();
        Check.end();
    }

    private static void stories() {
        SaidSo x = Check.told(HEAD + "ask p 0 a 3;say p 1 a 1;say q 1 a 0;say p 2 a 2;");
        Check.due("story(0, 0)", x.story(0, 0), 2);
        Check.due("story(0, 1)", x.story(0, 1), -1);
        Check.due("story(1, 0)", x.story(1, 0), 0);
        Check.due("story(5, 0)", x.story(5, 0), -2);
        Check.due("story(-1, 0)", x.story(-1, 0), -2);
        Check.due("story(0, 2)", x.story(0, 2), -2);
        Check.due("story(0, -1)", x.story(0, -1), -2);
        x.hear(1);
        Check.due("story(0, 0), heard", x.story(0, 0), 1);
        x.hear(0);
        Check.due("story(0, 0), asked alone", x.story(0, 0), -1);
    }

    private static void clashes() {
        SaidSo x = Check.told(HEAD + "say p 1 a 1;say q 1 a 0;say p 2 b 3;say q 2 b 2;say r 3 a 1;say q 4 a 1;");
        Check.due("clash(0, 1)", x.clash(0, 1), 1);
        Check.due("clash(1, 0)", x.clash(1, 0), 1);
        Check.due("clash(0, 2)", x.clash(0, 2), 0);
        Check.due("clash(0, 3)", x.clash(0, 3), 0);
        x.hear(3);
        Check.due("clash(0, 1), heard", x.clash(0, 1), 2);
        Check.due("clash(1, 1)", x.clash(1, 1), -1);
        Check.due("clash(0, 5)", x.clash(0, 5), -1);
        Check.due("clash(5, 0)", x.clash(5, 0), -1);
        Check.due("clash(-1, 0)", x.clash(-1, 0), -1);
        Check.due("clash(0, -1)", x.clash(0, -1), -1);
    }

    private static void together() {
        Check.due("nobody spoke", Check.told(HEAD).together(), 31);
        SaidSo x = Check.told(HEAD + "say p 1 a 1;say q 1 a 0;say r 1 a 1;say s 1 a 0;say t 2 a 2;");
        Check.due("two pairs, the least bits", x.together(), 5);
        x.hear(1);
        Check.due("he who said nothing goes with each", x.together(), 21);
        // Clashes in a ring of five: any two that aren't neighbours.
        x = Check.told("thing a 2 is 0;thing b 2 is 0;thing c 2 is 0;thing d 2 is 0;thing e 2 is 0;" + HEAD.substring(30)
                + "say p 0 a 0;say q 0 a 1;say q 0 b 0;say r 0 b 1;say r 0 c 0;say s 0 c 1;say s 0 d 0;say t 0 d 1;say t 0 e 0;say p 0 e 1;");
        Check.due("a ring", x.together(), 5);
        x = Check.told(HEAD + "say p 1 a 1;say q 1 a 0;say r 1 a 0;say s 1 a 0;");
        Check.due("the most, not the first", x.together(), 30);
    }

    private static void lies() {
        SaidSo x = Check.told(HEAD + "say p 1 a 1;say q 1 a 0;say r 1 a 1;say s 1 a 0;say t 2 a 2;say p 3 b 0;say t 3 b 1;");
        Check.due("lies(0)", x.lies(0), 0);
        Check.due("lies(1)", x.lies(1), 0);
        Check.due("lies(5)", x.lies(5), 0);
        Check.due("lies(3)", x.lies(3), 1);
        Check.due("lies(15)", x.lies(15), 2);
        Check.due("lies(31)", x.lies(31), 4);
        Check.due("lies(17)", x.lies(17), 2);
        Check.due("lies(32)", x.lies(32), -1);
        Check.due("lies(-1)", x.lies(-1), -1);
        x.hear(1);
        Check.due("lies(31), heard", x.lies(31), 2);
    }

    private static void supposed(String text, int want) {
        Check.due("supposed(0) of '" + text + "'", Check.told(text).supposed(0), want);
    }

    private static void supposed() {
        String things = "thing a 4 is 2 police 5;thing b 4 is 1 police 6;thing c 4 is 0;thing d 4 is 3 police 0;";
        String talk = "teller p 9 begins 2 ends 9 tape 5;teller q 9 begins 2 ends 9 tape 5;";
        supposed(things + talk + "say p 5 a 2;say p 5 b 1;say p 5 c 0;say p 9 d 3;", 9);
        supposed(things + talk + "say p 4 a 2;say p 4 d 3;", 0);
        supposed(things + talk + "say p 5 a 1;say p 5 d 0;", 0);
        supposed(things + talk + "ask p 5 a;ask p 5 d 3;say p 5 a 2;say p 5 d 3;", 0);
        supposed(things + talk + "ask p 4 a 2;ask q 5 a 2;ask p 5 b;say p 5 a 2;", 1);
        supposed(things + talk + "say p 5 a 2;ask p 5 a 2;say p 5 a 2;", 1);
        supposed(things + talk + "say p 5 a 1;ask p 5 a;say p 5 a 2;", 0);
        supposed(things + "teller p 9 begins 5 ends 9 tape 5;say p 5 a 2;", 0);
        supposed(things + "teller p 9 begins 4 ends 9 tape 5;say p 5 a 2;", 1);
        supposed(things + "teller p 9 begins 5 ends 9;say p 5 a 2;say p 9 d 3;", 0);
        SaidSo x = Check.told(things + talk + "say q 7 d 3;say p 8 a 2;");
        Check.due("supposed(1)", x.supposed(1), 8);
        x.hear(7);
        Check.due("supposed(0), heard", x.supposed(0), 0);
        Check.due("supposed(1), heard", x.supposed(1), 8);
        Check.due("supposed(2)", x.supposed(2), -1);
        Check.due("supposed(-1)", x.supposed(-1), -1);
    }
}
