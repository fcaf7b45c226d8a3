/** Objects to look at: new ones, ones with some of all, full ones, full of text, late ones. */
final class Worlds {
    private Worlds() {
    }

    static void feed(BorderQuestions x, String text) {
        for (int i = 0; i < text.length(); i++) {
            x.feed(text.charAt(i));
        }
    }

    static int border(BorderQuestions x, String text) {
        feed(x, text);
        return x.border();
    }

    static BorderQuestions empty() {
        return new BorderQuestions();
    }

    /** Room is left everywhere: three GUARDS, four QUESTIONS, of which 2 is THROUGH and 3 FINED, a whole THE TEXT, an IMAGE. */
    static BorderQuestions some() {
        BorderQuestions x = new BorderQuestions();
        x.guard(0, 4, 0b0111);
        x.guard(6, 2, 0b1110);
        x.image();
        x.guard(4, 9, 0b0011);
        x.question(0b0110, 30);
        x.question(0b1100, 20);
        x.question(0b0011, 7);
        x.question(0b11110000, 9);
        border(x, "rest 3;keen 1 p=0&t>0");
        x.tire(0, 45);
        x.tire(1, 12);
        x.row(1, 0, 4);
        x.row(1, 2, 5);
        x.ask(2, 2);
        x.ask(3, 0);
        x.bring(0, 1);
        x.bring(1, 0);
        x.hear(0, 0, true);
        x.hear(1, 1, false);
        x.plan(1, 1);
        x.plan(3, 3);
        x.plan(0, 0);
        x.book(0, 30);
        x.book(1, 21);
        tapes(x);
        feed(x, "rest 8;dull 2 p<2");
        x.act(1, 1, 3);
        return x;
    }

    /** TAPES of 3 bytes, 60 shorts, 5 longs, 4 booleans, 0 ints, and one that holds nothing. */
    private static void tapes(BorderQuestions x) {
        x.tape(0, 0, 3);
        x.item(0, 2, 200);
        x.tape(1, 1, 60);
        x.item(1, 0, 7);
        x.item(1, 59, -2);
        x.tape(2, 3, 5);
        x.item(2, 1, 1L << 40);
        x.tape(3, 4, 4);
        x.item(3, 3, 5);
        x.tape(4, 2, 0);
    }

    /** As many of all as there may be, but for THE TEXT. */
    static BorderQuestions full() {
        BorderQuestions x = new BorderQuestions();
        int[] kinds = {6, 1, 2, 3, 4, 5};
        for (int p = 0; p < 6; p++) {
            x.guard(kinds[p], 9 - p, 0b000111000111 >> p);
        }
        for (int q = 0; q < 6; q++) {
            x.question(0b10011 << q, 10 + q);
            x.bring(q, 5 - q);
        }
        x.row(0, 3, 6);
        for (int i = 1; i < 6; i++) {
            border(x, "rest " + i);
        }
        x.image();
        border(x, "rest 7;dull 3 v>5");
        x.tire(3, 31);
        x.ask(1, 1);
        x.ask(2, 5);
        for (int i = 0; i < 5; i++) {
            x.hear(i, i, i % 2 == 0);
        }
        for (int i = 0; i < 10; i++) {
            x.plan(i == 5 ? 0 : 1, i < 6 ? 10 * i + i : 10 * (i - 5) + 1);
        }
        for (int i = 0; i < 8; i++) {
            x.book(i % 6, 10 + i % 6);
        }
        tapes(x);
        feed(x, "rest 9");
        x.act(0, 2, 5);
        return x;
    }

    /** 100 bytes of THE TEXT, which are a BORDER. */
    static BorderQuestions fullText() {
        BorderQuestions x = new BorderQuestions();
        x.guard(1, 3, 0b11);
        x.question(0b11, 5);
        feed(x, hundred());
        return x;
    }

    static String hundred() {
        StringBuilder text = new StringBuilder("keen 10 p=09");
        for (int i = 0; i < 21; i++) {
            text.append("|p=9");
        }
        return text.append("|p=0").toString();
    }

    /** Six BORDERS, no THE TEXT. */
    static BorderQuestions sixBorders() {
        BorderQuestions x = new BorderQuestions();
        for (int i = 1; i <= 6; i++) {
            border(x, "rest " + i);
        }
        return x;
    }

    /** HOUR is 9990. */
    static BorderQuestions late() {
        BorderQuestions x = new BorderQuestions();
        x.guard(0, 0, 1);
        x.guard(4, 0, 0);
        x.question(1, 10);
        for (int i = 0; i < 166; i++) {
            x.pass(60);
        }
        x.pass(30);
        x.bring(0, 0);
        x.tire(1, 50);
        return x;
    }
}
