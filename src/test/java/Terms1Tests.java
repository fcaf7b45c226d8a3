/** Terms 1, sentence by sentence: MATTERS, GUARDS, QUESTIONS, THE TEXT, WIT, how one ASKS, how an HOUR goes; both sides of each boundary. */
public final class Terms1Tests {
    private static final int GUARD = 0, DEEP = 1, SIMPLE = 2, LAWYER = 3, SHEPHERD = 4, BOY = 5, TOLD = 6;

    private Terms1Tests() {
    }

    public static void main(String[] args) {
        matters();
        guards();
        questions();
        hundredBytes();
        tenClauses();
        numbersOfClauses();
        blanksAndWords();
        eitherAndBoth();
        fourOthers();
        testsOfAll();
        comparisons();
        faults();
        newestHolds();
        rests();
        sums();
        keenAndDull();
        plainWit();
        deepWit();
        simpleWit();
        lawyerWit();
        shepherdWit();
        boyWit();
        toldWit();
        aboveZero();
        askedAndThrough();
        askedAndFined();
        hourGoes();
        restAtTheEdge();
        Due.end();
    }

    private static BorderQuestions fresh(String sentence) {
        Due.about(sentence);
        return new BorderQuestions();
    }

    /** One GUARD, and one QUESTION of these MATTERS. */
    private static BorderQuestions one(int kind, int v, int knows, int matters) {
        BorderQuestions x = new BorderQuestions();
        x.guard(kind, v, knows);
        x.question(matters, 50);
        return x;
    }

    private static int read(String text) {
        return Worlds.border(new BorderQuestions(), text);
    }

    private static void whole(String text) {
        Due.is("'" + text + "'", read(text), 0);
    }

    private static void fault(String text, int place) {
        Due.is("'" + text + "'", read(text), -10 - place);
    }

    private static String times(String part, String between, int n) {
        StringBuilder made = new StringBuilder(part);
        for (int i = 1; i < n; i++) {
            made.append(between).append(part);
        }
        return made.toString();
    }

    // ---- matters, guards, questions

    private static void matters() {
        Due.about("MATTERS are 0 .. 11, sets of them as bits (0 .. 4095)");
        Due.is("matter 0", one(GUARD, 0, 1, 1).of(0, 10), 2);
        Due.is("matter 11", one(GUARD, 0, 2048, 2048).of(0, 10), 2);
        Due.is("matter 11 not known", one(GUARD, 0, 2047, 2048).of(0, 10), -1);
        Due.is("all twelve", one(GUARD, 0, 4095, 4095).of(0, 10), 24);
        Due.is("eleven of twelve", one(GUARD, 0, 4094, 4095).of(0, 10), 21);
        Due.is("none of none", one(GUARD, 0, 4095, 0).of(0, 10), 0);
        BorderQuestions x = one(GUARD, 0, 0, 0);
        Due.is("know 4095", x.know(0, 4095), 0);
        Due.is("know 0", x.know(0, 0), 4095);
        Due.is("question of 4095", x.question(4095, 0), 1);
        Due.is("question of 0", x.question(0, 0), 2);
        Due.is("guard of 4095", x.guard(0, 0, 4095), 1);
        Due.is("guard of 0", x.guard(0, 0, 0), 2);
    }

    private static void guards() {
        BorderQuestions x = fresh("GUARDS 0 .. 5, as they come, are of KINDS, with a number v (0 .. 9), TIRED (0 .. 99; 0 at first)");
        for (int p = 0; p < 6; p++) {
            Due.is("the next number", x.guard(p == 5 ? TOLD : p, p == 0 ? 0 : 9, 4090 + p), p);
            Due.is("how many", x.count(0), p + 1);
            Due.is("its kind", x.of(p, 0), p == 5 ? 6 : p);
            Due.is("its v", x.of(p, 1), p == 0 ? 0 : 9);
            Due.is("knows", x.of(p, 2), 4090 + p);
            Due.is("tired at first", x.of(p, 3), 0);
            Due.is("the next one is not there", x.of(p + 1, 0), -10001);
        }
        Due.is("no seventh", x.guard(0, 0, 0), -4);
        Due.is("six", x.count(0), 6);
        Due.is("99", x.tire(5, 99), 0);
        Due.is("0", x.tire(5, 0), 99);
        for (int part = 0; part < 4; part++) {
            Due.is("the ROW is 0 at first", x.row(5, part, 9), 0);
            Due.is("and 9 at most", x.row(5, part, 0), 9);
        }
    }

    private static void questions() {
        BorderQuestions x = fresh("QUESTIONS 0 .. 5, as they come, with GOODS (0 .. 99), WAITING at first, brought to none at first; HOUR: 0 at first");
        for (int q = 0; q < 6; q++) {
            Due.is("the next number", x.question(4090 + q, q % 2 * 99), q);
            Due.is("how many", x.count(1), q + 1);
            Due.is("matters", x.sack(q, 0), 4090 + q);
            Due.is("goods", x.sack(q, 1), q % 2 * 99);
            Due.is("waiting at first", x.sack(q, 2), 0);
            Due.is("brought to none at first", x.sack(q, 3), -5);
            Due.is("the next one is not there", x.sack(q + 1, 0), -1);
        }
        Due.is("no seventh", x.question(0, 0), -4);
        Due.is("six", x.count(1), 6);
        Due.is("hour at first", x.told(0), 0);
        Due.is("all wait", x.told(4), 63);
        x.guard(GUARD, 0, 0);
        Due.is("the sixth to the first", x.bring(5, 0), -5);
        Due.is("brought", x.sack(5, 3), 0);
        Due.is("none is asked by being brought", x.sack(5, 2), 0);
    }

    // ---- the text

    private static void hundredBytes() {
        Due.about("THE TEXT (bytes, 100 at most)");
        String text = Worlds.hundred();
        Due.is("so long", text.length(), 100);
        BorderQuestions x = one(GUARD, 0, 0, 0);
        for (int i = 0; i < 100; i++) {
            Due.is("byte " + i, x.feed(text.charAt(i)), i + 1);
        }
        Due.is("no 101st", x.feed('0'), -4);
        Due.is("100 there", x.count(6), 100);
        Due.is("all is one border", x.border(), 0);
        Due.is("empty", x.count(6), 0);
        Due.is("the last test holds", x.of(0, 10), 10);
        Due.is("and may be fed again", x.feed(0), 1);
        fault(text.substring(0, 99) + "=", 99);
        fault(text.substring(0, 98) + "00", 98);
        fault(text.substring(0, 99) + (char) 127, 99);
        fault(text.substring(0, 97) + "(", 98);
        fault(text.substring(0, 99), 99);
        whole(text.substring(0, 96));
        fault(times("rest 11;", "", 10) + "dull 1 p=0", 79);
        fault("keen 10 p=09" + times("|p=9", "", 20) + "|!p=0&p<", 100);
        fault("keen 10 p=09" + times("|p=9", "", 20) + "|!p=0&!!", 100);
        fault("keen 1 p=09" + times("&p=9", "", 22) + "|", 100);
    }

    private static void tenClauses() {
        Due.about("CLAUSES, 1 to 10, with ; between");
        fault("", 0);
        whole("rest 1");
        whole(times("rest 1", ";", 9));
        whole(times("rest 1", ";", 10));
        fault(times("rest 1", ";", 11), 69);
        fault(times("rest 1", ";", 10) + ";", 69);
        fault(times("rest 1", ";", 9) + ";", 63);
        fault("rest 1;", 7);
        fault(";", 0);
        fault(";rest 1", 0);
        fault("rest 1;;rest 1", 7);
        fault("rest 1,rest 1", 6);
        fault("rest 1rest 1", 6);
        fault("rest 1 ;rest 1", 6);
        fault("rest 1; rest 1", 7);
        whole("keen 1 p=0;dull 1 p=0;rest 1");
        whole(times("dull 1 k=0", ";", 9));
        BorderQuestions x = one(GUARD, 0, 0, 0);
        Due.is("ten", Worlds.border(x, "keen 1 p<9;rest 3;keen 1 p<9;rest 4;keen 1 p<9;dull 3 p<9;rest 4;rest 4;keen 2 p<9;keen 40 p<9"), 0);
        Due.is("the first five and the tenth count", x.of(0, 10), 3 - 3 + 2 + 40);
    }

    private static void numbersOfClauses() {
        Due.about("keen n E; dull n E; rest n (n 1 or 2 digits)");
        String[] words = {"keen ", "dull "};
        for (String word : words) {
            whole(word + "0 p=0");
            whole(word + "9 p=0");
            whole(word + "00 p=0");
            whole(word + "99 p=0");
            fault(word + "100 p=0", 7);
            fault(word + "001 p=0", 7);
            fault(word + " p=0", 5);
            fault(word + "-1 p=0", 5);
            fault(word + "1- p=0", 6);
            fault(word + "1x p=0", 6);
            fault(word + "/ p=0", 5);
            fault(word + ": p=0", 5);
            fault(word + "1/ p=0", 6);
            fault(word + "1: p=0", 6);
        }
        int[] rests = {0, 1, 9, 10, 99};
        for (int n : rests) {
            BorderQuestions x = new BorderQuestions();
            Due.is("rest " + n, Worlds.border(x, "rest " + n), 0);
            Due.is("is " + n, x.told(1), n);
        }
        fault("rest 100", 7);
        fault("rest x", 5);
        fault("rest 1x", 6);
        fault("rest /", 5);
        fault("rest :", 5);
        BorderQuestions x = one(GUARD, 0, 0, 0);
        Worlds.border(x, "keen 99 p=0");
        Due.is("99 more", x.of(0, 10), 99);
        Worlds.border(x, "dull 99 p=0");
        Due.is("99 less", x.of(0, 10), -99);
        Worlds.border(x, "keen 00 p=0;dull 0 p=0;keen 07 p=0");
        Due.is("7 more", x.of(0, 10), 7);
        Worlds.border(x, "keen 10 p=0;dull 1 p=0");
        Due.is("9 more", x.of(0, 10), 9);
    }

    private static void blanksAndWords() {
        Due.about("one blank ahead of each part behind the word");
        fault("keen1 p=0", 4);
        fault("keen  1 p=0", 5);
        fault("keen 1p=0", 6);
        fault("keen 1  p=0", 7);
        fault("keen 1 p =0", 8);
        fault("keen 1 p= 0", 9);
        fault("keen 1 p=0 |p=0", 10);
        fault("keen 1 p=0| p=0", 11);
        fault("keen 1 ( p=0)", 8);
        fault("keen 1 ! p=0", 8);
        fault("keen 1 (p=0 )", 11);
        fault("dull1 p=0", 4);
        fault("rest1", 4);
        fault("rest  1", 5);
        fault("rest 1 p=0", 6);
        fault("keen\t1 p=0", 4);
        fault("keen 1\tp=0", 6);
        String[] words = {"keen", "dull", "rest"};
        for (String word : words) {
            for (int i = 0; i < 4; i++) {
                fault(word.substring(0, i) + "#" + word.substring(i + 1) + " 1 p=0", i);
                fault(word.substring(0, i), i);
                fault(word.substring(0, i) + (char) (word.charAt(i) - 32) + word.substring(i + 1) + " 1 p=0", i);
            }
            fault(word, 4);
            fault(word + " ", 5);
            fault(word + word, 4);
        }
        fault("reen 1 p=0", 2);
        fault("dest 1", 1);
        fault("kull 1 p=0", 1);
    }

    private static int bonus(String e) {
        BorderQuestions x = one(GUARD, 3, 0, 0);
        Due.is("'" + e + "' is read", Worlds.border(x, "keen 1 " + e), 0);
        return x.of(0, 10);
    }

    /** All of E with three tests, each true (v=3) or not (v=4). */
    private static void eitherAndBoth() {
        Due.about("E: T or T|E. T: F or F&T. F: !F, (E), or a TEST");
        for (int bits = 0; bits < 8; bits++) {
            boolean a = (bits & 1) != 0;
            boolean b = (bits & 2) != 0;
            boolean c = (bits & 4) != 0;
            String s = a ? "v=3" : "v=4";
            String t = b ? "v=3" : "v=4";
            String u = c ? "v=3" : "v=4";
            Due.is("a|b&c", bonus(s + "|" + t + "&" + u), a | b & c ? 1 : 0);
            Due.is("a&b|c", bonus(s + "&" + t + "|" + u), a & b | c ? 1 : 0);
            Due.is("(a|b)&c", bonus("(" + s + "|" + t + ")&" + u), (a | b) & c ? 1 : 0);
            Due.is("a&(b|c)", bonus(s + "&(" + t + "|" + u + ")"), a & (b | c) ? 1 : 0);
            Due.is("a|b|c", bonus(s + "|" + t + "|" + u), a | b | c ? 1 : 0);
            Due.is("a&b&c", bonus(s + "&" + t + "&" + u), a & b & c ? 1 : 0);
            Due.is("!a&b|c", bonus("!" + s + "&" + t + "|" + u), !a & b | c ? 1 : 0);
            Due.is("!a|b&c", bonus("!" + s + "|" + t + "&" + u), !a | b & c ? 1 : 0);
            Due.is("!(a|b)&c", bonus("!(" + s + "|" + t + ")&" + u), !(a | b) & c ? 1 : 0);
            Due.is("!(a&b|c)", bonus("!(" + s + "&" + t + "|" + u + ")"), !(a & b | c) ? 1 : 0);
            Due.is("a&!b|!!c", bonus(s + "&!" + t + "|!!" + u), a & !b | c ? 1 : 0);
            Due.is("a&b|c&b|a&c", bonus(s + "&" + t + "|" + u + "&" + t + "|" + s + "&" + u), a & b | c & b | a & c ? 1 : 0);
            Due.is("(a|(b&(c|(a))))", bonus("(" + s + "|(" + t + "&(" + u + "|(" + s + "))))"), a | b & (c | a) ? 1 : 0);
            Due.is("(a|(b&(!c)))", bonus("(" + s + "|(" + t + "&(!" + u + ")))"), a | b & !c ? 1 : 0);
        }
        fault("keen 1 p=0|", 11);
        fault("keen 1 p=0&", 11);
        fault("keen 1 |p=0", 7);
        fault("keen 1 &p=0", 7);
        fault("keen 1 p=0||p=0", 11);
        fault("keen 1 p=0&&p=0", 11);
        fault("keen 1 p=0|&p=0", 11);
        fault("keen 1 p=0!p=0", 10);
        fault("keen 1 p=0(p=0)", 10);
        fault("keen 1 (p=0)(p=0)", 12);
        fault("keen 1 (p=0", 11);
        fault("keen 1 (p=0;rest 1", 11);
        fault("keen 1 p=0)", 10);
        fault("keen 1 (p=0))", 12);
        fault("keen 1 ()", 8);
        fault("keen 1 !", 8);
        fault("keen 1 !)", 8);
        fault("keen 1 (p=0|)", 12);
    }

    /** All rows of four and of five of ( and !. */
    private static void fourOthers() {
        Due.about("A ( or ! within 4 others is none");
        for (int bits = 0; bits < 16; bits++) {
            StringBuilder open = new StringBuilder();
            StringBuilder close = new StringBuilder();
            for (int i = 0; i < 4; i++) {
                open.append((bits >> i & 1) == 0 ? '!' : '(');
                close.append((bits >> i & 1) == 0 ? "" : ")");
            }
            whole("keen 1 " + open + "p=0" + close);
            whole("keen 1 " + open + "p=0" + close + "&" + open + "p=0" + close + "|" + open + "p=0" + close);
            whole("keen 1 " + open + "p=0" + close + ";dull 1 " + open + "p=0" + close);
            fault("keen 1 " + open + "(p=0)" + close, 11);
            fault("keen 1 " + open + "!p=0" + close, 11);
            fault("keen 1 " + open + "!", 11);
            fault("keen 1 p=0&" + open + "(", 15);
            fault("keen 1 p=0|" + open + "!", 15);
        }
        whole("keen 1 (((!p=0&!p=0|!p=0)))");
        fault("keen 1 (((!p=0&!p=0|!!p=0)))", 21);
        fault("keen 1 ((((p=0&!p=0))))", 15);
        fault("keen 1 ((((p=0|(p=0)))))", 15);
        whole("keen 1 !(!(p=0)|(!p=0)|!!p=0|((p=0)))");
        fault("keen 1 !(!(p=0)|!(!p=0))", 18);
        whole("keen 1 (!p=0)&!(((p=0)))");
        fault("keen 1 (!p=0)&!((((p=0))))", 18);
    }

    private static void testsOfAll() {
        Due.about("a TEST: a letter, < or = or >, a number (1 or 2 digits)");
        for (int sign = 0; sign < 128; sign++) {
            char one = (char) sign;
            if ("pkvtnh".indexOf(one) >= 0) {
                whole("keen 1 " + one + "=0");
            } else {
                fault("keen 1 " + one + "=0", one == '(' || one == '!' ? 8 : 7);
            }
            if ("<=>".indexOf(one) >= 0) {
                whole("keen 1 p" + one + "0");
            } else {
                fault("keen 1 p" + one + "0", 8);
            }
            if ("0123456789".indexOf(one) >= 0) {
                whole("keen 1 p=" + one);
                whole("keen 1 p=1" + one);
                fault("keen 1 p=11" + one, 11);
            } else {
                fault("keen 1 p=" + one, 9);
                fault("keen 1 p=1" + one, "&|;".indexOf(one) >= 0 ? 11 : 10);
                fault("keen 1 p=11" + one, "&|;".indexOf(one) >= 0 ? 12 : 11);
            }
        }
        fault("keen 1 p", 8);
        fault("keen 1 p=", 9);
        fault("keen 1 p<=0", 9);
        fault("keen 1 p=-1", 9);
        fault("keen 1 0=p", 7);
        fault("keen 1 pk=0", 8);
    }

    /** By how much it is more keen for a number below that of the letter, the same, and above it. */
    private static void compared(String letter, int fact, BorderQuestions x, int guard, int question) {
        int before = x.of(guard, 10 + question);
        Worlds.border(x, "keen 40 " + letter + "<" + fact + ";keen 20 " + letter + "=" + fact + ";keen 10 " + letter + ">" + fact);
        Due.is(letter + " against " + fact + ": the same", x.of(guard, 10 + question) - before, 20);
        Worlds.border(x, "keen 40 " + letter + "<" + (fact + 1) + ";keen 20 " + letter + "=" + (fact + 1) + ";keen 10 " + letter + ">" + (fact + 1));
        Due.is(letter + " against one more than " + fact + ": below", x.of(guard, 10 + question) - before, 40);
        if (fact > 0) {
            Worlds.border(x, "keen 40 " + letter + "<" + (fact - 1) + ";keen 20 " + letter + "=" + (fact - 1) + ";keen 10 " + letter + ">" + (fact - 1));
            Due.is(letter + " against one less than " + fact + ": above", x.of(guard, 10 + question) - before, 10);
        }
    }

    private static void comparisons() {
        Due.about("p the number of the one, k its KIND, v its v, t TIRED by 10 (cut), n how many MATTERS there are, h HOUR modulo 10");
        for (int p = 0; p < 6; p++) {
            BorderQuestions x = new BorderQuestions();
            for (int i = 0; i < 6; i++) {
                x.guard(GUARD, 7, 0);
            }
            x.question(0, 0);
            compared("p", p, x, p, 0);
        }
        for (int kind = 0; kind < 7; kind++) {
            BorderQuestions x = one(kind, 0, 0, 4095);
            Worlds.border(x, "keen 30 k=" + kind + ";keen 40 k>" + kind + ";keen 44 k<" + kind);
            int half = kind == SIMPLE || kind == BOY ? 2 : 1;
            Due.is("kind " + kind, x.of(0, 10), (-12 + 30) / half + (half - 1) + (kind == SHEPHERD ? 3 : kind == TOLD ? -4 : 0));
        }
        int[] vs = {0, 1, 8, 9};
        for (int v : vs) {
            compared("v", v, one(GUARD, v, 0, 0), 0, 0);
        }
        int[][] tired = {{0, 0}, {9, 0}, {10, 1}, {19, 1}, {20, 2}, {89, 8}, {90, 9}, {99, 9}};
        for (int[] t : tired) {
            BorderQuestions x = one(GUARD, 0, 0, 0);
            x.tire(0, t[0]);
            compared("t", t[1], x, 0, 0);
        }
        int[][] matters = {{0, 0}, {2048, 1}, {2049, 2}, {2047, 11}, {4095, 12}};
        for (int[] m : matters) {
            compared("n", m[1], one(GUARD, 0, 0, m[0]), 0, 0);
            compared("n", m[1], one(GUARD, 0, 4095, m[0]), 0, 0);
        }
        int[] hours = {0, 1, 9, 10, 11, 19, 20, 57};
        for (int hour : hours) {
            BorderQuestions x = one(GUARD, 0, 0, 0);
            x.pass(hour);
            compared("h", hour % 10, x, 0, 0);
        }
    }

    private static void faults() {
        Due.about("The FAULT: the place of the first byte with which none begins so (the end of THE TEXT, if it ends too early)");
        String text = "keen 12 (p=1|!k<23)&h>4;dull 9 !(v>8&!(n<5));rest 56";
        boolean[] ends = new boolean[text.length() + 1];
        int[] wholes = {19, 23, 44, 51, 52};
        for (int end : wholes) {
            ends[end] = true;
        }
        for (int i = 0; i <= text.length(); i++) {
            if (ends[i]) {
                whole(text.substring(0, i));
            } else {
                fault(text.substring(0, i), i);
            }
            if (i < text.length()) {
                fault(text.substring(0, i) + "#" + text.substring(i + 1), i);
                fault(text.substring(0, i) + (char) 0 + text.substring(i), i);
            }
        }
        fault(text + " ", text.length());
        fault(text + "7", text.length());
        fault("\0", 0);
        fault("\177", 0);
        fault("x" + text, 0);
        fault("keen 1 x=1;keen 1 x=1", 7);
        fault("keen 1 p=1;keen 1 x=1", 18);
    }

    private static void newestHolds() {
        BorderQuestions x = fresh("The newest BORDER holds (6 at most); without one there are no CLAUSES");
        x.guard(GUARD, 0, 0);
        x.question(0, 0);
        Due.is("without one", x.of(0, 10), 0);
        for (int i = 0; i < 6; i++) {
            Due.is("its number", Worlds.border(x, "keen " + (i + 1) + "0 p=0;rest " + i), i);
            Due.is("how many", x.count(2), i + 1);
            Due.is("it holds alone", x.of(0, 10), 10 * i + 10);
            Due.is("its rest", x.told(1), i);
            Due.is("a fault", Worlds.border(x, "keen 99 p=0;rest 99;"), i < 5 ? -30 : -4);
            Due.is("the one that held holds", x.of(0, 10), 10 * i + 10);
            Due.is("its rest still", x.told(1), i);
        }
        Due.is("no seventh", x.border(), -4);
        Due.is("the text stays", x.count(6), 20);
        Due.is("the sixth holds", x.of(0, 10), 60);
        Due.is("six", x.count(2), 6);
    }

    private static void rests() {
        BorderQuestions x = fresh("REST (5 without): the last one's n");
        Due.is("without a border", x.told(1), 5);
        Worlds.border(x, "keen 1 p=0");
        Due.is("without a rest", x.told(1), 5);
        Worlds.border(x, "rest 2;keen 9 p=0;rest 44;dull 9 p=0;rest 8;keen 7 p=7");
        Due.is("the last of three", x.told(1), 8);
        Worlds.border(x, "dull 1 p=0");
        Due.is("without a rest behind one with it", x.told(1), 5);
        Worlds.border(x, "rest 0;rest 99");
        Due.is("99", x.told(1), 99);
        Worlds.border(x, "rest 99;rest 0");
        Due.is("0", x.told(1), 0);
        Due.is("a fault behind a rest", Worlds.border(x, "rest 7"), 5);
        Due.is("7", x.told(1), 7);
    }

    // ---- wit

    private static int wit(int kind, int v, int knows, int matters, int tired) {
        BorderQuestions x = one(kind, v, knows, matters);
        x.tire(0, tired);
        return x.of(0, 10);
    }

    private static void sums() {
        Due.about("SUM: twice how many of these it KNOWS, less how many of these it does not KNOW, less TIRED by 10 (cut)");
        Due.is("known", wit(GUARD, 0, 0b1, 0b1, 0), 2);
        Due.is("not known", wit(GUARD, 0, 0b10, 0b1, 0), -1);
        Due.is("what is not of these does not matter", wit(GUARD, 0, 0b1111, 0b1, 0), 2);
        Due.is("three and two", wit(GUARD, 9, 0b10101, 0b11111, 0), 6 - 2);
        Due.is("tired 9", wit(GUARD, 0, 0, 0, 9), 0);
        Due.is("tired 10", wit(GUARD, 0, 0, 0, 10), -1);
        Due.is("tired 19", wit(GUARD, 0, 0, 0, 19), -1);
        Due.is("tired 20", wit(GUARD, 0, 0, 0, 20), -2);
        Due.is("tired 99", wit(GUARD, 0, 0, 0, 99), -9);
        Due.is("the least", wit(GUARD, 0, 0, 4095, 99), -21);
        Due.is("the most", wit(GUARD, 0, 4095, 4095, 9), 24);
    }

    private static void keenAndDull() {
        Due.about("and the n of all keen whose E holds, less those of all dull, together (may be below 0)");
        BorderQuestions x = one(GUARD, 2, 0b111, 0b111);
        Worlds.border(x, "keen 1 p=0;keen 2 p=0;keen 4 p=1;dull 8 p=0;dull 16 p=1;dull 32 v=2;rest 77");
        Due.is("6 and 1 and 2 less 8 and 32", x.of(0, 10), 6 + 3 - 40);
        Worlds.border(x, "dull 99 p=0;dull 99 p=0;dull 99 p=0;dull 99 p=0;dull 99 p=0;dull 99 p=0;dull 99 p=0;dull 99 p=0");
        x.know(0, 0);
        x.tire(0, 99);
        Due.is("far below 0", x.of(0, 10), -3 - 9 - 8 * 99);
        Worlds.border(x, "keen 99 p=0;keen 99 p=0;keen 99 p=0;keen 99 p=0;keen 99 p=0;keen 99 p=0;keen 99 p=0;keen 99 p=0");
        Due.is("far above 0", x.of(0, 10), -3 - 9 + 8 * 99);
        BorderQuestions y = one(SIMPLE, 0, 0, 1);
        Worlds.border(y, "dull 99 n=1;keen 3 k=2");
        Due.is("in the half, too", y.of(0, 10), -97 / 2 + 1);
        BorderQuestions z = one(LAWYER, 0, 0, 1);
        Worlds.border(z, "keen 50 n=1");
        Due.is("but not for a lawyer and one matter", z.of(0, 10), 0);
    }

    private static void plainWit() {
        Due.about("GUARD: SUM");
        Due.is("v does not matter", wit(GUARD, 9, 0b1, 0b1, 0), 2);
        Due.is("below 0", wit(GUARD, 9, 0, 0b1, 0), -1);
        Due.is("one matter is as good", wit(GUARD, 0, 0b1, 0b1, 30), -1);
    }

    private static void deepWit() {
        Due.about("DEEP: SUM and v");
        Due.is("v 0", wit(DEEP, 0, 0b1, 0b1, 0), 2);
        Due.is("v 1", wit(DEEP, 1, 0b1, 0b1, 0), 3);
        Due.is("v 9", wit(DEEP, 9, 0b1, 0b1, 0), 11);
        Due.is("below 0", wit(DEEP, 9, 0, 4095, 0), -3);
        Due.is("none of none", wit(DEEP, 4, 0, 0, 10), 3);
    }

    private static void simpleWit() {
        Due.about("SIMPLE: the half (cut toward 0) of SUM, and 1 more than that half");
        int[] sums = {-3, -2, -1, 0};
        int[] halves = {0, 0, 1, 1};
        for (int i = 0; i < sums.length; i++) {
            Due.is("sum " + sums[i], wit(SIMPLE, 9, 0, 0, -10 * sums[i]), halves[i]);
        }
        Due.is("sum -4", wit(SIMPLE, 0, 0, 0b1111, 0), -1);
        Due.is("sum -5", wit(SIMPLE, 0, 0, 0b11111, 0), -1);
        Due.is("sum 1", wit(SIMPLE, 0, 0b1, 0b11, 0), 1);
        Due.is("sum 2", wit(SIMPLE, 0, 0b1, 0b1, 0), 2);
        Due.is("sum 3", wit(SIMPLE, 0, 0b11, 0b111, 0), 2);
        Due.is("sum 4", wit(SIMPLE, 0, 0b11, 0b11, 0), 3);
    }

    private static void lawyerWit() {
        Due.about("LAWYER: SUM; 0, if there are fewer than 2 MATTERS");
        Due.is("no matters", wit(LAWYER, 9, 4095, 0, 0), 0);
        Due.is("no matters, tired", wit(LAWYER, 9, 4095, 0, 99), 0);
        Due.is("one known", wit(LAWYER, 9, 0b1, 0b1, 0), 0);
        Due.is("one not known", wit(LAWYER, 9, 0, 2048, 50), 0);
        Due.is("two known", wit(LAWYER, 9, 0b11, 0b11, 0), 4);
        Due.is("two not known", wit(LAWYER, 9, 0, 0b11, 0), -2);
        Due.is("three", wit(LAWYER, 9, 0b11, 0b111, 10), 2);
    }

    private static void shepherdWit() {
        Due.about("SHEPHERD: as DEEP; 3 more, if HOUR modulo 3 is 0");
        BorderQuestions x = one(SHEPHERD, 7, 0b1, 0b11);
        for (int hour = 0; hour < 13; hour++) {
            Due.is("hour " + hour, x.of(0, 10), 1 + 7 + (hour == 0 || hour == 3 || hour == 6 || hour == 9 || hour == 12 ? 3 : 0));
            x.pass(1);
        }
        Due.is("v 0", wit(SHEPHERD, 0, 0, 0, 0), 3);
        Due.is("v 9", wit(SHEPHERD, 9, 0, 0, 0), 12);
        Due.is("a DEEP one is no SHEPHERD", wit(DEEP, 0, 0, 0, 0), 0);
    }

    private static void boyWit() {
        Due.about("BOY: as SIMPLE, less 4, if TIRED is 30 or more");
        Due.is("29", wit(BOY, 0, 0b1111, 0b1111, 29), (8 - 2) / 2 + 1);
        Due.is("30", wit(BOY, 0, 0b1111, 0b1111, 30), (8 - 3) / 2 + 1 - 4);
        Due.is("31", wit(BOY, 0, 0b1111, 0b1111, 31), (8 - 3) / 2 + 1 - 4);
        Due.is("0", wit(BOY, 0, 0, 0b1, 0), 1);
        Due.is("99", wit(BOY, 0, 0, 0, 99), -9 / 2 + 1 - 4);
        Due.is("a SIMPLE one is no BOY", wit(SIMPLE, 0, 0b1111, 0b1111, 30), 3);
    }

    private static void toldWit() {
        Due.about("TOLD: as LAWYER, and its ROW (four numbers 0 .. 9; 0 at first) at how many MATTERS there are modulo 4, less 4");
        for (int n = 0; n <= 12; n++) {
            BorderQuestions x = one(TOLD, 9, 4095, (1 << n) - 1);
            int lawyer = n < 2 ? 0 : 2 * n;
            Due.is("a ROW of 0 and " + n + " matters", x.of(0, 10), lawyer - 4);
            x.row(0, n % 4, 9);
            Due.is("9 at its part, " + n + " matters", x.of(0, 10), lawyer + 5);
            for (int part = 0; part < 4; part++) {
                x.row(0, part, part == n % 4 ? 0 : 9);
            }
            Due.is("9 at all other parts, " + n + " matters", x.of(0, 10), lawyer - 4);
        }
        BorderQuestions x = one(TOLD, 0, 0, 0b11);
        x.row(0, 2, 6);
        Due.is("below 0 by the lawyer's", x.of(0, 10), -2 + 6 - 4);
    }

    // ---- asking, hours

    /** Asked with WIT 0 it is FINED, with WIT 1 it is THROUGH. */
    private static void aboveZero() {
        Due.about("It can ANSWER, if WIT is above 0");
        for (int kind = 0; kind < 7; kind++) {
            for (int wit = -1; wit <= 1; wit++) {
                BorderQuestions x = one(kind, 0, 0, 0b11);
                // SUM is what makes the WIT of the KIND this; a SIMPLE one's 0 is by a half of -1, its -1 of -2.
                int sum = kind == SIMPLE || kind == BOY ? 2 * (wit - 1) : kind == SHEPHERD ? wit - 3 : kind == TOLD ? wit + 4 : wit;
                Worlds.border(x, (sum + 2 >= 0 ? "keen " + (sum + 2) : "dull " + -(sum + 2)) + " n=2");
                Due.is("wit of kind " + kind, x.of(0, 10), wit);
                Due.is("load of kind " + kind, x.told(6), wit > 0 ? 50 : 0);
                Due.is("asked of kind " + kind, x.ask(0, 0), wit > 0 ? 1 : 2);
            }
        }
    }

    private static void askedAndThrough() {
        Due.about("the QUESTION is THROUGH, and TIRED 10 more (99 at most)");
        int[][] tired = {{0, 10}, {1, 11}, {79, 89}, {88, 98}, {89, 99}, {90, 99}, {98, 99}, {99, 99}};
        for (int[] t : tired) {
            BorderQuestions x = one(GUARD, 0, 4094, 4095);
            x.tire(0, t[0]);
            Due.is("through at " + t[0], x.ask(0, 0), 1);
            Due.is("tired after " + t[0], x.of(0, 3), t[1]);
            Due.is("it learns nothing by that", x.of(0, 2), 4094);
            Due.is("its goods are through", x.told(2), 50);
            Due.is("none is fined", x.told(3), 0);
            Due.is("no hour goes", x.told(0), 0);
        }
    }

    private static void askedAndFined() {
        Due.about("the QUESTION is FINED, and the GUARD KNOWS the least of its MATTERS that it did not KNOW, too (if there is one)");
        int[][] learnt = {{0, 0b1, 0b1}, {0, 2048, 2048}, {0b1, 0b111, 0b11}, {0b10, 0b111, 0b11}, {0b1000, 0b100100, 0b1100},
            {0, 4095, 1}, {0b11, 4095, 0b111}, {2047 & ~1023, 2048 | 1023, 1025}};
        for (int[] one : learnt) {
            BorderQuestions x = one(GUARD, 0, one[0], one[1]);
            x.tire(0, 99);
            Due.is("fined", x.ask(0, 0), 2);
            Due.is("from " + one[0] + " by " + one[1], x.of(0, 2), one[2]);
            Due.is("not more tired", x.of(0, 3), 99);
            Due.is("fined", x.told(3), 1);
            Due.is("no goods", x.told(2), 0);
        }
        int[][] none = {{0b101, 0b1}, {4095, 0}, {0, 0}};
        for (int[] one : none) {
            BorderQuestions x = one(GUARD, 0, one[0], one[1]);
            x.tire(0, 50);
            Due.is("fined", x.ask(0, 0), 2);
            Due.is("there is none to learn", x.of(0, 2), one[0]);
        }
        BorderQuestions x = one(GUARD, 0, 0, 0b11);
        x.guard(GUARD, 0, 0);
        x.ask(0, 0);
        Due.is("another one learns nothing", x.of(1, 2), 0);
        Due.is("what it is of stays", x.sack(0, 0), 0b11);
    }

    private static void hourGoes() {
        BorderQuestions x = fresh("An HOUR goes: one behind the other by number, each QUESTION that is WAITING and is brought to a GUARD is ASKED of that");
        x.guard(GUARD, 0, 0);
        x.guard(GUARD, 0, 4095);
        x.question(0b100, 1);
        x.question(0b010, 2);
        x.question(0b110, 4);
        x.question(0b001, 8);
        x.question(0b1111, 16);
        x.question(0b1, 32);
        for (int q = 0; q < 5; q++) {
            x.bring(4 - q, 0);
        }
        x.bring(3, -1);
        x.bring(5, 1);
        x.ask(5, 1);
        Due.is("the hour", x.pass(1), 1);
        int[] states = {2, 2, 1, 0, 1, 1};
        for (int q = 0; q < 6; q++) {
            Due.is("question " + q, x.sack(q, 2), states[q]);
        }
        Due.is("two are learnt by 0 and 1, with which 2 and 4 are through", x.of(0, 2), 0b110);
        Due.is("tired by two, rested once", x.of(0, 3), 15);
        Due.is("what was THROUGH is not asked again", x.of(1, 3), 5);
        Due.is("the next hour", x.pass(1), 2);
        Due.is("nothing more is asked", x.told(4), 8);
        Due.is("rested twice", x.of(0, 3), 10);
        x.bring(3, 0);
        Due.is("the third hour", x.pass(1), 3);
        Due.is("brought late, asked late", x.sack(3, 2), 2);
    }

    private static void restAtTheEdge() {
        Due.about("Then TIRED of each GUARD is REST less (0 at least). HOUR is 1 more");
        int[][] tired = {{0, 0}, {1, 0}, {4, 0}, {5, 0}, {6, 1}, {99, 94}};
        for (int[] t : tired) {
            BorderQuestions x = new BorderQuestions();
            for (int p = 0; p < 6; p++) {
                x.guard(GUARD, 0, 0);
                x.tire(p, p % 2 == 0 ? t[0] : 99);
            }
            x.pass(1);
            for (int p = 0; p < 6; p++) {
                Due.is("guard " + p + " after " + t[0], x.of(p, 3), p % 2 == 0 ? t[1] : 94);
            }
            Due.is("hour", x.told(0), 1);
        }
        BorderQuestions x = one(GUARD, 0, 0, 0);
        Worlds.border(x, "rest 0");
        x.tire(0, 7);
        x.pass(60);
        Due.is("no rest", x.of(0, 3), 7);
        Worlds.border(x, "rest 99");
        x.tire(0, 99);
        x.pass(1);
        Due.is("all rest", x.of(0, 3), 0);
        Due.is("hour", x.told(0), 61);
        BorderQuestions y = one(GUARD, 0, 0b1, 0b1);
        y.bring(0, 0);
        y.tire(0, 5);
        y.pass(1);
        Due.is("first tired, then rested: 15 less 5", y.of(0, 3), 10);
        BorderQuestions z = one(GUARD, 0, 4095, 4095);
        z.bring(0, 0);
        z.tire(0, 95);
        z.pass(1);
        Due.is("99 at most ahead of the rest", z.of(0, 3), 94);
    }
}
