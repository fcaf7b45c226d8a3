/** Terms 2, sentence by sentence: ON, LOAD, ENOUGH, STUDY, STUMPS, HEARD, KNEW, CAN, ODDS, MEAN, PLAN, BOOK, ACTS, THE IMAGE; both sides of each boundary. */
public final class Terms2Tests {
    private static final int GUARD = 0, DEEP = 1, SIMPLE = 2, LAWYER = 3, SHEPHERD = 4, BOY = 5, TOLD = 6;
    private static final int MIN = Integer.MIN_VALUE, MAX = Integer.MAX_VALUE;

    private Terms2Tests() {
    }

    public static void main(String[] args) {
        onHours();
        onByKinds();
        onBeyondTheLastHour();
        loadMost();
        loadFirst();
        loadAsNow();
        enoughFewest();
        enoughLeast();
        study();
        stumps();
        heard();
        knew();
        can();
        odds();
        mean();
        plan();
        planRows();
        ends();
        book();
        acts();
        actsWrap();
        trace();
        image();
        Due.end();
    }

    private static BorderQuestions fresh(String sentence) {
        Due.about(sentence);
        return new BorderQuestions();
    }

    private static BorderQuestions one(int kind, int v, int knows, int matters) {
        BorderQuestions x = new BorderQuestions();
        x.guard(kind, v, knows);
        x.question(matters, 50);
        return x;
    }

    // ---- hours

    private static void onHours() {
        BorderQuestions x = fresh("ON n HOURS (0 .. 60): what a GUARD KNOWS; TIRED of one; GOODS of all QUESTIONS that are THROUGH, together; STATE of a QUESTION");
        x.guard(GUARD, 0, 0b11);
        x.guard(SHEPHERD, 0, 0);
        x.question(0b1, 10);
        x.question(0b10, 20);
        x.question(0b100, 40);
        Worlds.border(x, "rest 1");
        x.ask(0, 0);
        x.bring(1, 0);
        x.bring(2, 0);
        x.tire(1, 99);
        Due.is("goods on no hours: what is THROUGH already", x.on(0, 0), 10);
        Due.is("goods on one", x.on(1, 0), 30);
        Due.is("goods on 60", x.on(60, 0), 30);
        Due.is("knows on no hours", x.on(0, 10), 0b11);
        Due.is("knows on one", x.on(1, 10), 0b111);
        Due.is("another one", x.on(1, 11), 0);
        Due.is("tired on no hours", x.on(0, 20), 10);
        Due.is("tired on one", x.on(1, 20), 19);
        Due.is("tired on two", x.on(2, 20), 18);
        Due.is("99 on no hours", x.on(0, 21), 99);
        Due.is("99 on 59", x.on(59, 21), 40);
        Due.is("99 on 60", x.on(60, 21), 39);
        Due.is("not 61", x.on(61, 21), -2);
        Due.is("not -1", x.on(-1, 21), -2);
        Due.is("state of 0", x.on(1, 30), 1);
        Due.is("state of 1 on none", x.on(0, 31), 0);
        Due.is("state of 1 on one", x.on(1, 31), 1);
        Due.is("state of 2 on one", x.on(1, 32), 2);
        Due.is("no state of 3", x.on(1, 33), -1);
        Due.is("pass goes the same way", x.pass(60), 60);
        Due.is("39", x.of(1, 3), 39);
        Due.is("30", x.told(2), 30);
    }

    /** What a GUARD is (its KIND, v, ROW) goes on into the HOURS that are asked about, and into a PLAN. */
    private static void onByKinds() {
        Due.about("ON, ENDS: goes on from how all is");
        for (int kind = 0; kind < 7; kind++) {
            for (int v = 0; v < 10; v++) {
                // Of 0b1000 and 0b100000 it KNOWS the one or none: SUM is 1 or -2.
                BorderQuestions x = one(kind, v, v % 2 == 0 ? 0b1000 : 0, 0b101000);
                if (kind == TOLD) {
                    x.row(0, 2, v);
                }
                boolean answers = x.of(0, 10) > 0;
                x.bring(0, 0);
                x.plan(0, 0);
                Due.is("on, kind " + kind + ", v " + v, x.on(1, 0), answers ? 50 : 0);
                Due.is("ends, kind " + kind + ", v " + v, x.ends(0), answers ? 50 : 0);
                Due.is("kind " + kind + " can, v " + v, answers ? 1 : 0, witOfTwo(kind, v) > 0 ? 1 : 0);
            }
        }
    }

    /** WIT at HOUR 0 of one with v (its ROW, too) and of two MATTERS, of which it KNOWS one if v is even. */
    private static int witOfTwo(int kind, int v) {
        int sum = v % 2 == 0 ? 1 : -2;
        int[] wits = {sum, sum + v, v % 2 == 0 ? 1 : 0, sum, sum + v + 3, v % 2 == 0 ? 1 : 0, sum + v - 4};
        return wits[kind];
    }

    private static void onBeyondTheLastHour() {
        Due.about("All that follows goes on from how all is (HOURS beyond 9999, too)");
        BorderQuestions x = Worlds.late();
        Due.is("9", x.pass(9), 9999);
        Due.is("no more", x.pass(1), -3);
        x.tire(1, 99);
        Worlds.border(x, "rest 1");
        Due.is("60 beyond", x.on(60, 21), 39);
        x.question(0, 20);
        x.bring(1, 1);
        Due.is("tired 99 the shepherd can not", x.told(6), 0);
        x.tire(1, 0);
        Due.is("the shepherd at 9999, which is by 3, can", x.on(1, 0), 30);
        Due.is("state", x.on(1, 31), 1);
        x.plan(0, 0);
        x.plan(3, 1);
        x.plan(2, 1);
        x.plan(0, 0);
        Due.is("at 10000 it can not", x.ends(1), 1);
        x.plan(0, 0);
        x.plan(0, 0);
        x.plan(3, 1);
        x.plan(0, 0);
        Due.is("at 10003 it can not", x.ends(1), 1);
        x.plan(-1, 0);
        x.plan(0, 0);
        x.plan(0, 0);
        x.plan(0, 0);
        x.plan(3, 1);
        x.plan(2, 1);
        x.plan(0, 0);
        Due.is("at 10002 it can", x.ends(1), 0);
        Due.is("the hour stays", x.told(0), 9999);
    }

    // ---- load, enough

    /** GUARDS who each know a set, QUESTIONS of one MATTER and GOODS each; what is due: how much, and to whom by QUESTION. */
    private static void load(String name, int[] knows, int[] matters, int[] goods, int most, int... row) {
        BorderQuestions x = new BorderQuestions();
        for (int one : knows) {
            x.guard(GUARD, 0, one);
        }
        for (int q = 0; q < matters.length; q++) {
            x.question(matters[q], goods[q]);
        }
        Due.is(name + ": how much", x.told(6), most);
        for (int q = 0; q < row.length; q++) {
            Due.is(name + ": question " + q, x.told(10 + q), row[q]);
        }
        Due.is(name + ": none behind", x.told(10 + row.length), -1);
    }

    private static void loadMost() {
        Due.about("LOAD: that by which GOODS of those brought, together, are most, no two to the same");
        load("no guards", new int[] {}, new int[] {1}, new int[] {9}, 0, -5);
        load("no questions", new int[] {1}, new int[] {}, new int[] {}, 0);
        load("who can", new int[] {2, 1}, new int[] {1}, new int[] {9}, 9, 1);
        load("none who can", new int[] {2, 4}, new int[] {1}, new int[] {9}, 0, -5);
        load("11 ahead of 10", new int[] {1}, new int[] {1, 1}, new int[] {10, 11}, 11, -5, 0);
        load("10 ahead of 9", new int[] {1}, new int[] {1, 1}, new int[] {10, 9}, 10, 0, -5);
        load("two ahead of one", new int[] {1, 3}, new int[] {2, 1}, new int[] {10, 30}, 40, 1, 0);
        load("two small ones ahead of a great one", new int[] {1, 2}, new int[] {3, 1, 2}, new int[] {19, 10, 10}, 29, 0, -5, 1);
        load("the great one", new int[] {3}, new int[] {3, 1, 2}, new int[] {21, 10, 10}, 21, 0, -5, -5);
        load("a chain", new int[] {3, 6, 12, 24}, new int[] {2, 4, 8, 1}, new int[] {5, 5, 5, 5}, 20, 1, 2, 3, 0);
        load("99 six times", new int[] {63, 63, 63, 63, 63, 63}, new int[] {1, 2, 4, 8, 16, 32}, new int[] {99, 99, 99, 99, 99, 99},
            594, 0, 1, 2, 3, 4, 5);
        load("six to one", new int[] {63}, new int[] {1, 2, 4, 8, 16, 32}, new int[] {1, 1, 1, 1, 1, 2}, 2, -5, -5, -5, -5, -5, 0);
        load("one to six", new int[] {1, 1, 1, 1, 1, 1}, new int[] {1}, new int[] {1}, 1, 0);
    }

    private static void loadFirst() {
        Due.about("LOAD: of several the first as a row of GUARDS by QUESTIONS, none being 9");
        load("alike: the first question", new int[] {1}, new int[] {1, 1}, new int[] {10, 10}, 10, 0, -5);
        load("alike: the first guard", new int[] {1, 1}, new int[] {1}, new int[] {10}, 10, 0);
        load("the first guard at the first question", new int[] {1, 1}, new int[] {1, 1}, new int[] {10, 10}, 20, 0, 1);
        load("no goods, to a guard rather than to none", new int[] {1}, new int[] {1}, new int[] {0}, 0, 0);
        load("no goods, and one guard", new int[] {1}, new int[] {1, 1}, new int[] {0, 0}, 0, 0, -5);
        load("no goods gives way to goods", new int[] {1}, new int[] {1, 1}, new int[] {0, 1}, 1, -5, 0);
        load("no goods to a later guard rather than to none", new int[] {1, 2}, new int[] {3, 1}, new int[] {0, 1}, 1, 1, 0);
        load("no goods behind goods", new int[] {1, 1}, new int[] {1, 1, 1}, new int[] {0, 5, 0}, 5, 0, 1, -5);
        load("guard 5 rather than none, which is 9", new int[] {0, 0, 0, 0, 0, 1}, new int[] {1, 1}, new int[] {0, 0}, 0, 5, -5);
        load("12, 30 rather than 21, 30", new int[] {6, 6, 1}, new int[] {2, 4, 1}, new int[] {7, 7, 7}, 21, 0, 1, 2);
        load("the second is left out for the third", new int[] {3, 1}, new int[] {1, 1, 2}, new int[] {4, 4, 4}, 8, 0, 1, -5);
    }

    private static void loadAsNow() {
        BorderQuestions x = fresh("LOAD: each QUESTION that is WAITING, who can ANSWER it as all is now");
        x.guard(GUARD, 0, 0b11);
        x.guard(SHEPHERD, 0, 0);
        x.question(0b1, 10);
        x.question(0b10, 20);
        x.question(0b11, 40);
        Due.is("40 and 20", x.told(6), 60);
        Due.is("the first row: 20 to 0", x.told(11), 0);
        Due.is("the shepherd can by its hour", x.told(12), 1);
        x.pass(1);
        Due.is("the shepherd can not", x.told(6), 40);
        Due.is("none of 20", x.told(11), -5);
        x.tire(0, 20);
        Due.is("40 by a wit of 2", x.told(6), 40);
        x.tire(0, 40);
        Due.is("none by a wit of 0", x.told(6), 0);
        Due.is("to none", x.told(12), -5);
        Worlds.border(x, "keen 5 p=1&n=1");
        Due.is("20 by the border", x.told(6), 20);
        Due.is("to the shepherd", x.told(11), 1);
        Due.is("and 10 is left", x.told(10), -5);
        Due.is("is through", x.ask(1, 1), 1);
        Due.is("10, for 20 is THROUGH", x.told(6), 10);
        Due.is("to the shepherd", x.told(10), 1);
        Due.is("what is THROUGH is brought to none", x.told(11), -5);
        Due.is("is fined", x.ask(0, 0), 2);
        Due.is("none is left", x.told(6), 0);
        Due.is("what is FINED is brought to none", x.told(10), -5);
        x.bring(2, 1);
        Due.is("to whom it is brought does not matter", x.told(12), -5);
    }

    private static void enough(String name, int[] knows, int[] matters, int due) {
        BorderQuestions x = new BorderQuestions();
        for (int one : knows) {
            x.guard(GUARD, 0, one);
        }
        for (int one : matters) {
            x.question(one, 0);
        }
        Due.is(name, x.told(5), due);
    }

    private static void enoughFewest() {
        Due.about("ENOUGH: the set with the fewest GUARDS one of whom at least can ANSWER each QUESTION that is WAITING (-5: none)");
        enough("nothing there", new int[] {}, new int[] {}, 0);
        enough("no question", new int[] {1, 2}, new int[] {}, 0);
        enough("no guard", new int[] {}, new int[] {1}, -5);
        enough("none who can", new int[] {2, 4, 8}, new int[] {1}, -5);
        enough("one of two can not be answered", new int[] {2, 4, 8}, new int[] {2, 1}, -5);
        enough("one", new int[] {1}, new int[] {1}, 1);
        enough("the last one alone, ahead of two lesser ones", new int[] {1, 2, 0, 3}, new int[] {1, 2}, 8);
        enough("the sixth alone, ahead of five", new int[] {1, 2, 4, 8, 16, 31}, new int[] {1, 2, 4, 8, 16}, 32);
        enough("all six", new int[] {1, 2, 4, 8, 16, 32}, new int[] {1, 2, 4, 8, 16, 32}, 63);
        enough("five of six", new int[] {1, 2, 4, 8, 16, 48}, new int[] {1, 2, 4, 8, 16, 32}, 47);
        enough("two great ones ahead of three", new int[] {1, 2, 7, 56, 8}, new int[] {1, 2, 4, 8, 16, 32}, 12);
        BorderQuestions x = one(GUARD, 0, 1, 1);
        x.question(2, 0);
        Due.is("none", x.told(5), -5);
        x.ask(1, 0);
        Due.is("what is FINED is not asked for", x.told(5), 1);
        x.ask(0, 0);
        Due.is("what is THROUGH is not asked for", x.told(5), 0);
        BorderQuestions y = one(GUARD, 0, 1, 1);
        y.tire(0, 19);
        Due.is("as all is now: 19", y.told(5), 1);
        y.tire(0, 20);
        Due.is("as all is now: 20", y.told(5), -5);
    }

    private static void enoughLeast() {
        Due.about("ENOUGH: of several the least as bits");
        enough("0 and 1 alike", new int[] {1, 1}, new int[] {1}, 1);
        enough("1 and 5 alike", new int[] {0, 1, 0, 0, 0, 1}, new int[] {1}, 2);
        enough("1, 2 (6) ahead of 0, 3 (9)", new int[] {1, 1, 2, 2}, new int[] {1, 2}, 5);
        enough("6 ahead of 9", new int[] {4, 12, 3, 11}, new int[] {1, 2, 4, 8}, 6);
        enough("5 ahead of 6 and 3", new int[] {1, 1, 2}, new int[] {1, 2}, 5);
        enough("3 ahead of 5", new int[] {1, 2, 2}, new int[] {1, 2}, 3);
    }

    // ---- study, stumps

    private static void study() {
        Due.about("STUDY: the set with the fewest MATTERS it does not KNOW (of several the least as bits) by which it could ANSWER it (-5: none)");
        Due.is("none is needed", one(GUARD, 0, 1, 1).of(0, 20), 0);
        Due.is("one", one(GUARD, 0, 0, 1).of(0, 20), 1);
        Due.is("matter 11", one(GUARD, 0, 0, 2048).of(0, 20), 2048);
        Due.is("the least of two: a wit of -2, then 1", one(GUARD, 0, 0, 0b11).of(0, 20), 0b01);
        Due.is("two of three: -3, 0, 3", one(GUARD, 0, 0, 0b111).of(0, 20), 0b011);
        Due.is("the least that it does not know", one(GUARD, 0, 0b1, 0b111111).of(0, 20), 0b000110);
        Due.is("what is not of the question does not help", one(GUARD, 0, 0b0111, 0b110000).of(0, 20), 0b010000);
        Due.is("five of twelve", one(GUARD, 0, 0, 4095).of(0, 20), 31);
        Due.is("five of twelve, but for those known", one(GUARD, 0, 0b101, 4095).of(0, 20), 0b11010);
        BorderQuestions x = one(GUARD, 0, 0, 0b1110);
        Worlds.border(x, "dull 5 n=3");
        Due.is("all three, by a wit of 1", x.of(0, 20), 0b1110);
        Worlds.border(x, "dull 6 n=3");
        Due.is("not by all three, by a wit of 0", x.of(0, 20), -5);
        x.know(0, 0b1110);
        Due.is("nor if it knows them", x.of(0, 20), -5);
        BorderQuestions y = one(GUARD, 0, 0, 4095);
        y.tire(0, 99);
        Worlds.border(y, "dull 14 p=0");
        Due.is("all twelve", y.of(0, 20), 4095);
        Worlds.border(y, "dull 15 p=0");
        Due.is("not by all twelve", y.of(0, 20), -5);
        Due.is("no matters", one(GUARD, 0, 0, 0).of(0, 20), -5);
        Due.is("no matters for a DEEP one of 1", one(DEEP, 1, 0, 0).of(0, 20), 0);
        Due.is("one matter for a LAWYER", one(LAWYER, 0, 0, 1).of(0, 20), -5);
        Due.is("two for a LAWYER", one(LAWYER, 0, 0, 0b11).of(0, 20), 1);
        Due.is("a SIMPLE one: -2 is 0, 1 is 1", one(SIMPLE, 0, 0, 0b11).of(0, 20), 1);
        Due.is("a SIMPLE one: -1 is 1", one(SIMPLE, 0, 0, 0b1).of(0, 20), 0);
        Due.is("what is THROUGH", after(one(GUARD, 0, 1, 1)).of(0, 20), 0);
    }

    private static BorderQuestions after(BorderQuestions x) {
        x.ask(0, 0);
        return x;
    }

    private static int stumps(int kind, int v, int knows, int tired, String border) {
        BorderQuestions x = one(kind, v, knows, 0);
        x.tire(0, tired);
        if (!border.isEmpty()) {
            Due.is(border, Worlds.border(x, border), 0);
        }
        return x.of(0, 4);
    }

    private static void stumps() {
        Due.about("STUMPS: the set with the fewest MATTERS, one at least (as bits; of several the least as bits), which it can not ANSWER (-5: none)");
        Due.is("knows none", stumps(GUARD, 0, 0, 0, ""), 1);
        Due.is("knows but 11", stumps(GUARD, 0, 2047, 0, ""), 2048);
        Due.is("knows 0, 1 and 3", stumps(GUARD, 0, 0b1011, 0, ""), 0b100);
        Due.is("knows all", stumps(GUARD, 0, 4095, 0, ""), -5);
        Due.is("knows all, tired 19: 2 less 1", stumps(GUARD, 0, 4095, 19, ""), -5);
        Due.is("knows all, tired 20: 2 less 2", stumps(GUARD, 0, 4095, 20, ""), 1);
        Due.is("matter 11 by a wit of 0", stumps(GUARD, 0, 2047, 0, "keen 1 p=0"), 2048);
        Due.is("the fewest (11) ahead of the least (0 and 1)", stumps(GUARD, 0, 2047, 0, "dull 9 n=2"), 2048);
        Due.is("two of them: 0 and 1, by v 2", stumps(DEEP, 2, 0, 0, ""), 0b11);
        Due.is("one of them, by v 1", stumps(DEEP, 1, 0, 0, ""), 0b1);
        Due.is("two it does not know", stumps(DEEP, 2, 0b1, 0, ""), 0b110);
        Due.is("three: two not known, one known, would be 3", stumps(DEEP, 3, 0, 0, ""), 0b111);
        Due.is("nine, by v 9", stumps(DEEP, 9, 0, 0, ""), 511);
        Due.is("all twelve, by 12", stumps(DEEP, 9, 0, 0, "keen 3 p=0"), 4095);
        Due.is("none, by 13", stumps(DEEP, 9, 0, 0, "keen 4 p=0"), -5);
        Due.is("twelve alone", stumps(GUARD, 0, 4095, 0, "dull 99 n=12"), 4095);
        Due.is("eleven alone", stumps(GUARD, 0, 4095, 0, "dull 99 n=11"), 2047);
        Due.is("none of no matters: one at least", stumps(GUARD, 0, 4095, 0, "dull 99 n=0"), -5);
        Due.is("none of no matters, though it can not", stumps(GUARD, 0, 4095, 0, "keen 1 p=0"), -5);
        Due.is("one alone", stumps(GUARD, 0, 4095, 0, "dull 2 n=1"), 1);
        Due.is("one alone by 1", stumps(GUARD, 0, 4095, 0, "dull 1 n=1"), -5);
        Due.is("a LAWYER: one", stumps(LAWYER, 9, 4095, 0, "keen 99 p=0"), 1);
        Due.is("a TOLD one: one", stumps(TOLD, 9, 4095, 0, ""), 1);
        Due.is("a SIMPLE one: -2 is 0", stumps(SIMPLE, 9, 0, 0, ""), 0b11);
        Due.is("a BOY: tired", stumps(BOY, 9, 4095, 30, ""), 1);
        Due.is("a SHEPHERD at 0", stumps(SHEPHERD, 0, 0, 0, ""), 0b111);
    }

    // ---- heard, odds

    private static void heard() {
        BorderQuestions x = fresh("HEARD: a GUARD, a QUESTION, whether it can ANSWER that now, whatever its STATE is (5 rows at most)");
        x.guard(GUARD, 0, 0);
        x.guard(GUARD, 0, 0);
        for (int q = 0; q < 5; q++) {
            x.question(1 << q, 0);
        }
        int[] counts = {2048, 1024, 512, 256, 128};
        for (int q = 0; q < 5; q++) {
            Due.is("row " + q, x.hear(0, q, true), q + 1);
            Due.is("each row counts", x.of(0, 5), counts[q]);
            Due.is("each row counts, the least", x.of(0, 6), (2 << q) - 1);
            Due.is("none is of another one", x.of(1, 5), 4096);
        }
        Due.is("no sixth", x.hear(0, 0, false), -4);
        Due.is("all are of the first five", x.of(0, 5), 128);
        x.ask(0, 0);
        x.know(1, 1);
        Due.is("FINED, and so still", x.of(0, 5), 128);
        Due.is("told (-1, whatever the rest is)", x.hear(-1, 77, false), 0);
        Due.is("nothing is heard", x.of(0, 5), 4096);
        Due.is("first again", x.hear(1, 1, false), 1);
        Due.is("not 1", x.of(1, 5), 2048);
        Due.is("not 1, the least", x.of(1, 6), 0);
        x.tire(1, 20);
        Due.is("now: tired 20, whatever it knows", x.of(1, 5), 4096);
        x.hear(1, 1, true);
        Due.is("now: both can not be", x.of(1, 5), 0);
    }

    private static void knew() {
        Due.about("KNEW: how many sets (0 .. 4095) there are by which all of HEARD that is of it is so; the least (-5: none)");
        BorderQuestions x = one(GUARD, 0, 77, 2048);
        Due.is("nothing heard: all", x.of(0, 5), 4096);
        Due.is("nothing heard: the empty one", x.of(0, 6), 0);
        x.hear(0, 0, true);
        Due.is("matter 11", x.of(0, 5), 2048);
        Due.is("matter 11, the least", x.of(0, 6), 2048);
        x.question(4095, 0);
        x.hear(0, 1, true);
        Due.is("and five at least of twelve, that being one", x.of(0, 5), 2048 - 1 - 11 - 55 - 165);
        Due.is("the least", x.of(0, 6), 2048 + 15);
        Worlds.border(x, "dull 23 n=12");
        Due.is("the full set alone", x.of(0, 5), 1);
        Due.is("the full set", x.of(0, 6), 4095);
        Worlds.border(x, "dull 24 n=12");
        Due.is("none", x.of(0, 5), 0);
        Due.is("none", x.of(0, 6), -5);
        BorderQuestions y = one(GUARD, 0, 77, 4095);
        Worlds.border(y, "keen 12 n=12");
        y.hear(0, 0, false);
        Due.is("the empty set alone", y.of(0, 5), 1);
        Due.is("the empty set", y.of(0, 6), 0);
        Worlds.border(y, "keen 13 n=12");
        Due.is("not even that", y.of(0, 6), -5);
        BorderQuestions w = one(DEEP, 2, 0, 0b1110);
        w.hear(0, 0, false);
        Due.is("by its v of 2: none of three is known", w.of(0, 5), 512);
        w.hear(-1, 0, false);
        w.hear(0, 0, true);
        Due.is("by its v of 2: one of three at least", w.of(0, 5), 4096 - 512);
        Due.is("by its v of 2: the least", w.of(0, 6), 2);
        BorderQuestions z = one(LAWYER, 0, 0, 1);
        z.hear(0, 0, false);
        Due.is("all sets", z.of(0, 5), 4096);
        z.hear(0, 0, true);
        Due.is("none", z.of(0, 5), 0);
    }

    private static int can(int kind, int v, int knows, int matters, boolean answers, String border, int what) {
        BorderQuestions x = one(kind, v, knows, matters);
        x.hear(0, 0, answers);
        if (!border.isEmpty()) {
            Worlds.border(x, border);
        }
        return x.can(0, what);
    }

    private static void can() {
        Due.about("CAN: how many numbers v (0 .. 9) likewise; the least (-5: none)");
        int[][] deep = {{0, 1}, {1, 2}, {7, 8}, {8, 9}};
        for (int[] one : deep) {
            int matters = (1 << one[0]) - 1;
            Due.is("can, of " + one[0] + " not known", can(DEEP, 3, 0, matters, true, "", 0), 9 - one[0]);
            Due.is("can, the least", can(DEEP, 3, 0, matters, true, "", 1), one[1]);
            Due.is("can not", can(DEEP, 3, 0, matters, false, "", 0), one[1]);
            Due.is("can not, the least", can(DEEP, 3, 0, matters, false, "", 1), 0);
        }
        Due.is("9 is not enough", can(DEEP, 3, 0, 511, true, "", 0), 0);
        Due.is("9 is not enough: none", can(DEEP, 3, 0, 511, true, "", 1), -5);
        Due.is("0 is enough", can(DEEP, 3, 1, 1, true, "", 0), 10);
        Due.is("0 is enough: 0", can(DEEP, 3, 1, 1, true, "", 1), 0);
        Due.is("0 is enough: none can not", can(DEEP, 3, 1, 1, false, "", 0), 0);
        Due.is("v does not matter to a GUARD", can(GUARD, 3, 1, 1, true, "", 0), 10);
        Due.is("v matters to a GUARD by a BORDER", can(GUARD, 3, 0, 1, true, "keen 9 v=9", 0), 1);
        Due.is("v matters to a GUARD by a BORDER", can(GUARD, 3, 0, 1, true, "keen 9 v=9", 1), 9);
        Due.is("v 0 by a BORDER", can(GUARD, 3, 0, 1, true, "keen 9 v<1", 0), 1);
        Due.is("v 0 by a BORDER", can(GUARD, 3, 0, 1, true, "keen 9 v<1", 1), 0);
        Due.is("v is never 10", can(GUARD, 3, 0, 1, true, "keen 9 v>9", 0), 0);
        Due.is("v is never 10", can(GUARD, 3, 0, 1, true, "keen 9 v=10", 1), -5);
        Due.is("two apart", can(GUARD, 3, 0, 1, true, "keen 9 v=4|v=8", 0), 2);
        Due.is("two apart, the least", can(GUARD, 3, 0, 1, true, "keen 9 v=8|v=4", 1), 4);
        BorderQuestions x = one(DEEP, 3, 0, 1);
        x.guard(DEEP, 0, 0);
        x.hear(1, 0, true);
        Due.is("what is heard of another one does not matter", x.can(0, 0), 10);
        Due.is("of that one it does", x.can(1, 0), 8);
        Due.is("v stays", x.of(1, 1), 0);
    }

    private static void odds(String name, BorderQuestions x, int above, int below) {
        Due.is(name + ": above", x.odds(0, 0, 0), above);
        Due.is(name + ": below", x.odds(0, 0, 1), below);
    }

    private static void odds() {
        Due.about("ODDS: if one of the 12 MATTERS, each alike likely, comes to those of it: a fraction in lowest terms");
        int[][] parts = {{0, 1}, {1, 12}, {1, 6}, {1, 4}, {1, 3}, {5, 12}, {1, 2}, {7, 12}, {2, 3}, {3, 4}, {5, 6}, {11, 12}, {1, 1}};
        for (int n = 0; n <= 12; n++) {
            odds("the first " + n + " of 12", one(GUARD, 0, (1 << n) - 1, 0), parts[n][0], parts[n][1]);
            odds("the last " + n + " of 12", one(GUARD, 0, 4095 & ~((1 << 12 - n) - 1), 0), parts[n][0], parts[n][1]);
        }
        odds("one that is there already", one(GUARD, 0, 0, 0b111), 0, 1);
        odds("one more, known or not", one(GUARD, 0, 0b111, 0b111), 1, 1);
        odds("known ones help: -1 and 2", one(GUARD, 0, 0b110, 0b1), 1, 6);
        odds("a LAWYER: eleven other ones", one(LAWYER, 0, 1, 1), 11, 12);
        odds("a LAWYER: none of one", one(LAWYER, 0, 4095, 0), 0, 1);
        odds("all are there", one(GUARD, 0, 31, 4095), 1, 1);
        odds("all are there, four known", one(GUARD, 0, 15, 4095), 0, 1);
        odds("whatever its STATE is", after(one(GUARD, 0, 0, 1)), 1, 1);
        BorderQuestions x = one(GUARD, 0, 0, 0);
        Worlds.border(x, "keen 2 n=1");
        odds("by how many there are then", x, 1, 1);
        x.tire(0, 10);
        odds("tired", x, 0, 1);
    }

    private static void mean() {
        BorderQuestions x = fresh("MEAN: how many MATTERS all GUARDS KNOW, together, by how many they are: a fraction in lowest terms (NO: there are none)");
        Due.is("there are none", x.mean(0), Long.MIN_VALUE);
        Due.is("there are none", x.mean(1), Long.MIN_VALUE);
        int[] knows = {4095, 4094, 0, 1, 4095, 4095};
        int[][] due = {{12, 1}, {23, 2}, {23, 3}, {6, 1}, {36, 5}, {8, 1}};
        for (int p = 0; p < 6; p++) {
            x.guard(GUARD, 0, knows[p]);
            Due.is("above, by " + (p + 1), x.mean(0), due[p][0]);
            Due.is("below, by " + (p + 1), x.mean(1), due[p][1]);
        }
        for (int p = 0; p < 6; p++) {
            x.know(p, 0);
        }
        Due.is("none known: 0", x.mean(0), 0);
        Due.is("none known: by 1", x.mean(1), 1);
        x.know(5, 2048);
        Due.is("one known: 1", x.mean(0), 1);
        Due.is("one known: by 6", x.mean(1), 6);
        x.know(0, 7);
        Due.is("four known: 2", x.mean(0), 2);
        Due.is("four known: by 3", x.mean(1), 3);
    }

    // ---- plan, book

    private static BorderQuestions sixes() {
        BorderQuestions x = new BorderQuestions();
        for (int i = 0; i < 6; i++) {
            x.guard(GUARD, 0, 1 << i);
            x.question(1 << i, 1 << i);
        }
        return x;
    }

    private static void plan() {
        BorderQuestions x = fresh("A PLAN: what goes, ASKED of a GUARD told as 10 times the one and the other; 10 rows at most");
        Due.is("10 times no question and no guard", x.plan(1, 0), -1);
        x = sixes();
        for (int q = 0; q < 6; q++) {
            Due.is("question " + q + " of its guard", x.plan(1, 11 * q), q + 1);
            Due.is("ends", x.ends(0), (2 << q) - 1);
        }
        Due.is("guard 6 of six", x.plan(1, 6), -1);
        Due.is("question 6 of six", x.plan(1, 60), -1);
        Due.is("an hour, whatever n is", x.plan(0, MIN), 7);
        Due.is("an hour, whatever n is", x.plan(0, MAX), 8);
        Due.is("guard 5", x.plan(2, 5), 9);
        Due.is("question 5", x.plan(3, 5), 10);
        Due.is("the tenth row is carried out", x.ends(0), 31);
        Due.is("no eleventh", x.plan(0, 0), -4);
        Due.is("ten", x.count(4), 10);
        Due.is("emptied, whatever n is", x.plan(-1, MIN), 0);
        Due.is("none", x.count(4), 0);
        Due.is("nothing goes", x.ends(0), 0);
        Due.is("the first again", x.plan(1, 50), 1);
        Due.is("5 asked of 0", x.ends(1), 1);
        x.plan(-1, 0);
        Due.is("0 asked of 5", x.plan(1, 5), 1);
        Due.is("0 asked of 5", x.ends(1), 1);
        x.know(5, 33);
        Due.is("5 knows 0, too", x.ends(0), 1);
    }

    private static void planRows() {
        BorderQuestions x = fresh("A PLAN: 0 an HOUR, 1 a QUESTION, if it is WAITING, is ASKED, 2 TIRED of GUARD n is 0, 3 QUESTION n is WAITING");
        x.guard(GUARD, 0, 0b1);
        x.guard(GUARD, 0, 0);
        x.question(0b1, 10);
        x.question(0b11, 20);
        x.question(0b10, 40);
        x.tire(0, 11);
        Worlds.border(x, "rest 10");
        x.plan(1, 0);
        Due.is("21: THROUGH by 1", x.ends(0), 10);
        x.plan(1, 0);
        Due.is("not asked twice", x.ends(1), 0);
        x.plan(1, 10);
        Due.is("1 less 2: FINED, as it is tired", x.ends(1), 1);
        x.plan(1, 10);
        Due.is("FINED is not asked twice", x.ends(1), 1);
        x.plan(3, 1);
        Due.is("WAITING again", x.ends(1), 0);
        x.plan(1, 10);
        Due.is("by what was learnt", x.ends(0), 30);
        x.plan(3, 0);
        Due.is("WAITING again, its GOODS are not THROUGH", x.ends(0), 20);
        x.plan(1, 0);
        Due.is("31: too tired", x.ends(1), 1);
        x.plan(3, 0);
        x.plan(2, 0);
        Due.is("ten rows", x.count(4), 10);
        Due.is("too tired ahead of that", x.ends(1), 0);
        x.plan(-1, 0);
        x.tire(0, 20);
        x.plan(1, 0);
        Due.is("20: FINED", x.ends(1), 1);
        x.plan(-1, 0);
        x.plan(2, 1);
        x.plan(1, 0);
        Due.is("another one's TIRED", x.ends(1), 1);
        x.plan(-1, 0);
        x.plan(2, 0);
        x.plan(1, 0);
        Due.is("0: THROUGH", x.ends(0), 10);
        x.plan(-1, 0);
        x.plan(0, 0);
        x.plan(1, 0);
        Due.is("an HOUR's REST: 10, THROUGH", x.ends(0), 10);
        x.plan(-1, 0);
        x.bring(2, 1);
        x.plan(0, 0);
        Due.is("an HOUR asks what is brought", x.ends(1), 1);
        x.plan(3, 2);
        x.plan(0, 0);
        Due.is("and again: learnt", x.ends(0), 40);
        tiredIsNought();
        Due.is("all is as it was", x.told(4), 7);
        Due.is("all is as it was", x.of(0, 3), 20);
        Due.is("all is as it was", x.of(1, 2), 0);
    }

    /** From 0, and not from 1, TIRED comes to 9 by an ASK and a REST of 1; from 0, and not from below, it comes to 10 by an ASK. */
    private static void tiredIsNought() {
        BorderQuestions x = one(GUARD, 0, 0b1, 0b1);
        x.question(0b1, 20);
        Worlds.border(x, "rest 1;dull 2 t>0");
        x.tire(0, 99);
        x.plan(2, 0);
        x.plan(1, 0);
        x.plan(0, 0);
        x.plan(1, 10);
        Due.is("0, 10, 9, 19", x.ends(0), 70);
        x.plan(-1, 0);
        x.plan(2, 0);
        x.plan(1, 0);
        x.plan(1, 10);
        Due.is("0, 10", x.ends(0), 50);
        x.tire(0, 1);
        x.plan(-1, 0);
        x.plan(1, 0);
        x.plan(0, 0);
        x.plan(1, 10);
        Due.is("1, 11, 10", x.ends(0), 50);
    }

    private static void ends() {
        BorderQuestions x = fresh("ENDS: GOODS of all that are THROUGH, together; how many are FINED");
        x.guard(GUARD, 0, 0b111111);
        for (int q = 0; q < 6; q++) {
            x.question(q < 3 ? 1 : 64 << q - 3, 99 - q);
        }
        x.ask(0, 0);
        x.ask(3, 0);
        Due.is("those that are THROUGH now", x.ends(0), 99);
        Due.is("those that are FINED now", x.ends(1), 1);
        x.plan(2, 0);
        x.plan(1, 10);
        x.plan(1, 40);
        x.plan(2, 0);
        x.plan(1, 20);
        x.plan(1, 50);
        Due.is("all", x.ends(0), 99 + 98 + 97);
        Due.is("all", x.ends(1), 3);
        Due.is("not 2", x.ends(2), -1);
        Due.is("not -1", x.ends(-1), -1);
    }

    private static void book() {
        BorderQuestions x = fresh("A BOOK: QUESTIONS, GOODS (0 .. 99; 8 at most): LOOKED at: the number (from 0) of the first of these rows by which it is otherwise now (-5: none)");
        Due.is("no rows", x.looked(), -5);
        x.question(1, 0);
        x.question(1, 99);
        for (int i = 0; i < 7; i++) {
            Due.is("row " + i, x.book(i % 2, i % 2 * 99), i + 1);
            Due.is("all so", x.looked(), -5);
        }
        Due.is("goods 100", x.book(0, 100), -2);
        Due.is("goods -1", x.book(0, -1), -2);
        Due.is("the eighth is otherwise", x.book(1, 98), 8);
        Due.is("the eighth is looked at", x.looked(), 7);
        Due.is("no ninth", x.book(0, 1), -4);
        Due.is("the eighth", x.looked(), 7);
        Due.is("emptied, whatever the rest is", x.book(-1, 100), 0);
        Due.is("no rows", x.looked(), -5);
        for (int first = 0; first < 8; first++) {
            for (int i = 0; i < 8; i++) {
                x.book(0, i < first ? 0 : 1 + i % 2);
            }
            Due.is("the first", x.looked(), first);
            x.book(-1, 0);
        }
        x.book(0, 1);
        Due.is("one more than it has", x.looked(), 0);
        x.guard(GUARD, 0, 1);
        x.book(-1, 0);
        x.book(1, 99);
        x.ask(1, 0);
        Due.is("its STATE does not matter", x.looked(), -5);
    }

    // ---- acts, the image

    private static BorderQuestions kinds() {
        BorderQuestions x = new BorderQuestions();
        for (int kind = 0; kind < 6; kind++) {
            x.guard(kind, 3, 0);
        }
        return x;
    }

    private static void acts() {
        Due.about("ACTS of a GUARD with x: 0 listens, 1 nods, 2 tells; i its number. BODIES");
        BorderQuestions x = kinds();
        int[] listens = {5, 6, 17, 8, -9, 20};
        int[] nods = {2, 5, 14, 5, -11, 17};
        int[] tells = {4, 10, 28, 11, -22, 4};
        for (int p = 0; p < 6; p++) {
            Due.is("listens " + p, x.act(p, 0, 5), listens[p]);
            Due.is("nods " + p, x.act(p, 1, 5), nods[p]);
            Due.is("tells " + p, x.act(p, 2, 5), tells[p]);
        }
        Due.is("act 3", x.act(0, 3, 5), 0);
        Due.is("act -1", x.act(0, -1, 5), 0);
        Due.is("guard 6", x.act(6, 0, 5), 0);
        Due.is("guard -1", x.act(-1, 0, 5), 0);
        BorderQuestions y = new BorderQuestions();
        y.guard(TOLD, 3, 0);
        Due.is("listens TOLD", y.act(0, 0, 5), 6);
        Due.is("nods TOLD", y.act(0, 1, 5), 5);
        Due.is("tells TOLD", y.act(0, 2, 5), 11);
        for (int p = 1; p < 6; p++) {
            y.guard(TOLD, 9, 0);
            Due.is("listens TOLD " + p, y.act(p, 0, 5), 5 + p ^ 9);
            Due.is("nods TOLD " + p, y.act(p, 1, 5), (5 + p ^ 9) - 9 + 2 + p);
        }
    }

    private static void actsWrap() {
        Due.about("ACTS (wrapping)");
        BorderQuestions x = kinds();
        Due.is("x + i", x.act(1, 0, MAX), MIN);
        Due.is("x + i", x.act(3, 0, MAX), MIN + 2);
        Due.is("x + i, as far as it goes", x.act(3, 0, MAX - 3), MAX);
        Due.is("listens(x) - v", x.act(0, 1, MIN), MAX - 2);
        Due.is("listens(x) - v, as far as it goes", x.act(0, 1, MIN + 3), MIN);
        Due.is("nods(x) * 2", x.act(0, 2, 1 << 30), -6 + MIN);
        Due.is("x * 3", x.act(2, 0, 0x55555556), 4);
        Due.is("-x of the least", x.act(4, 0, MIN - 4), MIN);
        Due.is("x + 1", x.act(4, 1, MAX), -(MIN + 4) - 3 ^ 6);
        Due.is("x - i", x.act(5, 2, MIN), 2 * (3 * (MIN - 5) + 5 - 3));
        BorderQuestions y = new BorderQuestions();
        y.guard(TOLD, 9, 0);
        Due.is("super.nods(x) + super.listens(2)", y.act(0, 1, MAX), (MAX ^ 9) - 9 + 2);
        Due.is("super.tells(x) + nods(1)", y.act(0, 2, MIN), 2 * ((MIN ^ 9) - 9 + 2) + (1 ^ 9) - 9 + 2);
    }

    private static void traced(BorderQuestions x, int p, int act, int... bodies) {
        x.act(p, act, 1);
        Due.is("how many by " + act + " of " + p, x.count(7), bodies.length);
        for (int i = 0; i < bodies.length; i++) {
            Due.is("body " + i + " by " + act + " of " + p, x.trace(i), bodies[i]);
        }
        Due.is("none behind the last", x.trace(bodies.length), -1);
        Due.is("none at 20", x.trace(20), -1);
        Due.is("none ahead of the first", x.trace(-1), -1);
    }

    private static void trace() {
        BorderQuestions x = fresh("THE TRACE: the numbers of the bodies that ran in the latest act(), as they began; the first 20 are kept");
        Due.is("none ran", x.count(7), 0);
        Due.is("none ran", x.trace(0), -1);
        x = kinds();
        traced(x, 0, 2, 12, 11, 10);
        traced(x, 0, 0, 10);
        traced(x, 1, 0, 10);
        traced(x, 1, 1, 20, 11, 10);
        traced(x, 1, 2, 12, 20, 11, 10);
        traced(x, 2, 0, 30, 10);
        traced(x, 2, 1, 11, 30, 10);
        traced(x, 2, 2, 12, 11, 30, 10);
        traced(x, 3, 0, 10);
        traced(x, 3, 1, 11, 10);
        traced(x, 3, 2, 40, 12, 11, 10, 11, 10);
        traced(x, 4, 0, 50, 10);
        traced(x, 4, 1, 51, 20, 11, 50, 10);
        traced(x, 4, 2, 12, 51, 20, 11, 50, 10);
        traced(x, 5, 0, 30, 10);
        traced(x, 5, 1, 11, 30, 10);
        traced(x, 5, 2, 60, 12, 11, 30, 10);
        traced(x, 6, 0);
        traced(x, 0, 1, 11, 10);
        traced(x, 0, 3);
        for (int p = 0; p < 6; p++) {
            traced(x, p, 3);
            traced(x, p, -1);
            traced(x, p, 4);
            traced(x, p, -2);
        }
        BorderQuestions y = new BorderQuestions();
        y.guard(TOLD, 1, 0);
        traced(y, 0, 0, 71, 10);
        traced(y, 0, 1, 70, 11, 71, 10, 10);
        traced(y, 0, 2, 40, 12, 70, 11, 71, 10, 10, 70, 11, 71, 10, 10);
    }

    private static void image() {
        BorderQuestions x = fresh("THE IMAGE: GUARDS with all that is theirs, QUESTIONS, HOUR, HEARD, the PLAN, the BOOK, which BORDER holds");
        Due.is("there is none", x.undo(), -3);
        Due.is("an image of nothing", x.image(), 0);
        x.guard(GUARD, 0, 0);
        Worlds.border(x, "rest 9");
        Due.is("all is as the image", x.undo(), 0);
        Due.is("no border holds", x.told(1), 5);
        Due.is("the borders stay", x.count(2), 1);
        Due.is("the number of the next one", Worlds.border(x, "rest 8"), 1);
        Due.is("as the image again", x.undo(), 0);
        Due.is("no border holds", x.told(1), 5);
        for (int p = 0; p < 6; p++) {
            x.guard(TOLD, 1, p);
            x.row(p, 1, p);
        }
        x.pass(7);
        Worlds.border(x, "rest 3");
        Due.is("a newer image", x.image(), 6);
        x.pass(2);
        x.row(5, 1, 9);
        Worlds.border(x, "rest 2");
        Due.is("a newer image is the one", x.undo(), 6);
        Due.is("the hour", x.told(0), 7);
        Due.is("the border that held", x.told(1), 3);
        Due.is("the row", x.row(5, 1, 8), 5);
        x.feed('r');
        x.tape(0, 0, 1);
        x.act(5, 0, 0);
        Due.is("undone once more", x.undo(), 6);
        Due.is("the row", x.row(5, 1, 8), 5);
        Due.is("the text is not of the image", x.count(6), 1);
        Due.is("the tapes are not", x.read(0, 0), 0);
        Due.is("the trace is not", x.count(7), 2);
        Due.is("the borders are not", x.count(2), 4);
    }
}
