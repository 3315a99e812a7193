/** Promises 18 to 20: page, left, moved. */
final class PageTest {
    private static final String HEAD = "thing a 4 is 2;thing b 4 is 1;thing c 4 is 0;"
            + "teller p 9 begins 0 ends 9;teller q 9 begins 0 ends 9;";

    public static void main(String[] args) {
        states();
        leftOut();
        moved();
        Check.end();
    }

    private static void pages(SaidSo x, int... want) {
        for (int i = 0; i < want.length; i++) {
            Check.due("page(" + i + ")", x.page(i), want[i]);
        }
    }

    private static void states() {
        SaidSo x = Check.told(HEAD + "say p 1 a 1;say p 2 a 3;say p 3 a 0;say q 1 b 1;ask p 3 c 0;"
                + "page p a 0;page p a 3;page p a 1;page p a 2;page p b 1;page p c 0;page q b 1;page q a 0;");
        pages(x, 0, 1, 1, 2, 3, 3, 0, 3, -1);
        Check.due("page(-1)", x.page(-1), -1);
        x.hear(1);
        pages(x, 2, 2, 0, 2, 3, 3, 0, 3);
        x.hear(2);
        pages(x, 2, 0, 1, 2, 3, 3, 0, 3);
        x.hear(0);
        pages(x, 3, 3, 3, 3, 3, 3, 3, 3);
    }

    private static void leftOut() {
        SaidSo x = Check.told(HEAD + "say p 1 a 1;say p 2 a 3;say p 3 a 1;say p 3 a 2;say p 4 b 0;say q 4 b 0;say q 5 c 1;"
                + "page p a 3;page p a 2;page q a 1;page q c 1;");
        // Both words a 1, and b 0; a 3 is on the page, a 2 is right.
        Check.due("left(0)", x.left(0), 3);
        Check.due("left(1)", x.left(1), 1);
        x.hear(3);
        Check.due("left(0), heard", x.left(0), 2);
        Check.due("left(1), heard", x.left(1), 0);
        Check.due("left(2)", x.left(2), -1);
        Check.due("left(-1)", x.left(-1), -1);
    }

    private static void moved() {
        String talk = HEAD + "say p 1 a 0;say p 2 a 1;say p 3 a 2;say p 4 a 3;say p 5 a 0;say q 1 b 0;say q 2 a 0;";
        moved(talk + "page p a 0;page p a 1;page p a 2;page p a 3;", 0);
        moved(talk + "page p a 3;page p a 0;page p a 1;page p a 2;", 1);
        moved(talk + "page p a 3;page p a 2;page p a 1;page p a 0;", 3);
        moved(talk + "page p a 1;page p a 0;page p a 3;page p a 2;", 2);
        // The first time that a value was said counts, not the latest.
        moved(talk + "page p a 1;page p a 0;", 1);
        // Lines of the same value may stand in either order; what wasn't said doesn't count.
        moved(talk + "page p a 1;page p a 1;page p b 0;page p a 2;page p a 2;", 0);
        moved(talk + "page p a 2;page p a 1;page p a 1;page p a 3;", 1);
        moved(talk + "page q a 0;page p a 0;page q b 0;page p a 1;", 0);
        SaidSo x = Check.told(talk + "page q a 0;page q b 0;page p a 3;page p a 0;");
        Check.due("moved(1)", x.moved(1), 1);
        Check.due("moved(0)", x.moved(0), 1);
        x.hear(1);
        Check.due("moved(1), heard", x.moved(1), 0);
        Check.due("moved(0), heard", x.moved(0), 0);
        Check.due("moved(2)", x.moved(2), -1);
        Check.due("moved(-1)", x.moved(-1), -1);
        StringBuilder back = new StringBuilder();
        for (int i = 0; i < 20; i++) {
            back.append("page p a ").append(3 - i % 4).append(';');
        }
        // Five rows of four, each of which falls: one line of each can stay.
        moved(talk + back, 15);
    }

    private static void moved(String text, int want) {
        Check.due("moved(0) of '" + text + "'", Check.told(text).moved(0), want);
    }
}
