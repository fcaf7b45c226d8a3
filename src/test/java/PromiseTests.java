/** Each promise of the document by itself: ordinary inputs, the edges it names, wrong inputs; all answers worked out by hand. */
public final class PromiseTests {
    private static final int MIN = Integer.MIN_VALUE, MAX = Integer.MAX_VALUE;
    private static final long NO = Long.MIN_VALUE;
    private static final int GUARD = 0, DEEP = 1, SIMPLE = 2, LAWYER = 3, SHEPHERD = 4, BOY = 5, TOLD = 6;

    private PromiseTests() {
    }

    public static void main(String[] args) {
        newObject();
        guards();
        ofPlain();
        ofWit();
        ofStudyAndStumps();
        ofKnew();
        questions();
        sacks();
        knowing();
        tiring();
        bringing();
        asking();
        rows();
        feeding();
        borders();
        borderFaults();
        borderMeaning();
        telling();
        toldEnough();
        toldLoad();
        passing();
        onHours();
        hearing();
        canBe();
        oddsByOneMore();
        means();
        plans();
        endings();
        books();
        lookedAt();
        judging();
        imageAndUndo();
        acting();
        tracing();
        taking();
        counting();
        tapes();
        items();
        readings();
        shifts();
        constants();
        Due.end();
    }

    private static BorderQuestions fresh(String about) {
        Due.about(about);
        return new BorderQuestions();
    }

    private static int text(BorderQuestions x, String text) {
        for (int i = 0; i < text.length(); i++) {
            x.feed(text.charAt(i));
        }
        return x.border();
    }

    private static void newObject() {
        BorderQuestions x = fresh("promise 1");
        for (int what = 0; what < 8; what++) {
            Due.is("count " + what, x.count(what), 0);
        }
        Due.is("hour", x.told(0), 0);
        Due.is("rest", x.told(1), 5);
        Due.is("guard 0", x.of(0, 0), -10001);
        Due.is("question 0", x.sack(0, 0), -1);
        Due.is("no image", x.undo(), -3);
        Due.is("no tape", x.read(0, 0), NO);
        Due.is("none to load", x.told(6), 0);
        Due.is("none to answer", x.told(5), 0);
    }

    private static void guards() {
        BorderQuestions x = fresh("promise 2");
        Due.is("kind -1", x.guard(-1, 0, 0), -1);
        Due.is("kind 7", x.guard(7, 99, -1), -1);
        Due.is("v -1", x.guard(0, -1, 0), -2);
        Due.is("v 10", x.guard(0, 10, 0), -2);
        Due.is("knows -1", x.guard(0, 0, -1), -2);
        Due.is("knows 4096", x.guard(0, 0, 4096), -2);
        Due.is("none came", x.count(0), 0);
        for (int p = 0; p < 6; p++) {
            Due.is("guard " + p, x.guard(6 - p, p + 4, 4095 - p), p);
        }
        Due.is("full", x.guard(0, 0, 0), -4);
        Due.is("kind ahead of full", x.guard(MIN, 0, 0), -1);
        Due.is("v ahead of full", x.guard(0, MAX, 0), -2);
        Due.is("knows ahead of full", x.guard(0, 0, MAX), -2);
        Due.is("kind of 2", x.of(2, 0), 4);
        Due.is("v of 5", x.of(5, 1), 9);
        Due.is("knows of 5", x.of(5, 2), 4090);
        Due.is("tired of 5", x.of(5, 3), 0);
    }

    private static void ofPlain() {
        BorderQuestions x = fresh("promise 3");
        x.guard(SHEPHERD, 3, 5);
        x.tire(0, 42);
        Due.is("kind", x.of(0, 0), 4);
        Due.is("v", x.of(0, 1), 3);
        Due.is("knows", x.of(0, 2), 5);
        Due.is("tired", x.of(0, 3), 42);
        int[] none = {-1, 7, 8, 9, 10, 15, 16, 19, 20, 25, 26, MIN, MAX, MIN + 10, MIN + 20};
        for (int what : none) {
            Due.is("what " + what, x.of(0, what), -10001);
        }
        x.question(1, 0);
        Due.is("question 0 is there", x.of(0, 10), 2 - 4 + 3 + 3);
        Due.is("question 1 is not", x.of(0, 11), -10001);
        Due.is("guard 1", x.of(1, 0), -10001);
        Due.is("guard -1", x.of(-1, 0), -10001);
    }

    private static void ofWit() {
        BorderQuestions x = fresh("promise 3, wit");
        for (int kind = 0; kind < 6; kind++) {
            x.guard(kind, 4, 7);
        }
        x.question(7, 0);
        x.question(1 | 8 | 16 | 32 | 64, 0);
        x.question(1, 0);
        int[] three = {6, 10, 4, 6, 13, 4};
        int[] five = {-2, 2, 0, -2, 5, 0};
        int[] one = {2, 6, 2, 0, 9, 2};
        for (int kind = 0; kind < 6; kind++) {
            Due.is("three of kind " + kind, x.of(kind, 10), three[kind]);
            Due.is("five of kind " + kind, x.of(kind, 11), five[kind]);
            Due.is("one of kind " + kind, x.of(kind, 12), one[kind]);
        }
        x.pass(1);
        Due.is("the shepherd at hour 1", x.of(4, 10), 10);
        x.pass(1);
        Due.is("the shepherd at hour 2", x.of(4, 10), 10);
        x.pass(1);
        Due.is("the shepherd at hour 3", x.of(4, 10), 13);
        tiredWit();
        toldWit();
    }

    private static void tiredWit() {
        BorderQuestions x = fresh("promise 3, wit of tired ones");
        x.guard(BOY, 0, 7);
        x.guard(SIMPLE, 0, 7);
        x.guard(GUARD, 0, 7);
        x.question(7, 0);
        int[] tired = {9, 10, 29, 30, 39, 40, 99};
        int[] boy = {4, 3, 3, -2, -2, -2, -4};
        int[] simple = {4, 3, 3, 2, 2, 2, 0};
        int[] plain = {6, 5, 4, 3, 3, 2, -3};
        for (int i = 0; i < tired.length; i++) {
            for (int p = 0; p < 3; p++) {
                x.tire(p, tired[i]);
            }
            Due.is("boy at " + tired[i], x.of(0, 10), boy[i]);
            Due.is("simple at " + tired[i], x.of(1, 10), simple[i]);
            Due.is("guard at " + tired[i], x.of(2, 10), plain[i]);
        }
    }

    private static void toldWit() {
        BorderQuestions x = fresh("promise 3, wit of a told one");
        x.guard(TOLD, 9, 4095);
        x.question(0, 0);
        x.question(1, 0);
        x.question(3, 0);
        x.question(7, 0);
        x.question(15, 0);
        x.question(31, 0);
        int[] before = {-4, -4, 0, 2, 4, 6};
        int[] after = {-3, -2, 3, 6, 5, 8};
        for (int q = 0; q < 6; q++) {
            Due.is("row of 0, question " + q, x.of(0, 10 + q), before[q]);
        }
        for (int part = 0; part < 4; part++) {
            x.row(0, part, part + 1);
        }
        for (int q = 0; q < 6; q++) {
            Due.is("row of 1 to 4, question " + q, x.of(0, 10 + q), after[q]);
        }
        x.ask(5, 0);
        Due.is("wit for what is through", x.of(0, 15), 7);
    }

    private static void ofStudyAndStumps() {
        BorderQuestions x = fresh("promise 3, study and stumps");
        x.guard(GUARD, 0, 1);
        x.guard(LAWYER, 0, 0);
        x.guard(DEEP, 9, 0);
        x.guard(BOY, 0, 0);
        x.question(0b111110, 0);
        x.question(1, 0);
        x.question(0, 0);
        Due.is("guard learns two of five", x.of(0, 20), 0b000110);
        Due.is("guard needs none", x.of(0, 21), 0);
        Due.is("no matters, nothing to learn", x.of(0, 22), -5);
        Due.is("lawyer is lost with one", x.of(1, 21), -5);
        Due.is("lawyer learns two of five", x.of(1, 20), 0b000110);
        Due.is("deep needs none", x.of(2, 20), 0);
        Due.is("boy learns two of five", x.of(3, 20), 0b000110);
        x.tire(3, 30);
        Due.is("a tired boy can not by all five", x.of(3, 20), -5);
        Due.is("stumps of the guard", x.of(0, 4), 2);
        Due.is("stumps of the lawyer", x.of(1, 4), 1);
        Due.is("stumps of the deep one: nine matters", x.of(2, 4), 0b111111111);
        Due.is("stumps of the boy", x.of(3, 4), 1);
        x.know(2, 0b000000000111);
        Due.is("none stumps: 3 of 12 known", x.of(2, 4), 0b111111111000);
        x.know(2, 0b000000001111);
        Due.is("none at all", x.of(2, 4), -5);
        x.ask(0, 0);
        Due.is("study of what is fined", x.of(0, 20), 0b000100);
    }

    private static void ofKnew() {
        BorderQuestions x = fresh("promise 3, knew");
        x.guard(GUARD, 0, 0);
        x.guard(DEEP, 0, 0);
        x.question(1, 0);
        x.question(0b110, 0);
        x.question(0, 0);
        Due.is("nothing heard", x.of(0, 5), 4096);
        Due.is("nothing heard, least", x.of(0, 6), 0);
        x.hear(0, 0, true);
        Due.is("knows 0", x.of(0, 5), 2048);
        Due.is("knows 0, least", x.of(0, 6), 1);
        Due.is("another one", x.of(1, 5), 4096);
        x.hear(0, 1, true);
        Due.is("and one of two", x.of(0, 5), 2048 / 4 * 3);
        Due.is("and one of two, least", x.of(0, 6), 3);
        x.tire(0, 10);
        Due.is("as all is now: tired", x.of(0, 5), 512);
        Due.is("as all is now: tired, least", x.of(0, 6), 7);
        x.hear(0, 1, false);
        Due.is("none", x.of(0, 5), 0);
        Due.is("none, least", x.of(0, 6), -5);
        x.ask(0, 1);
        x.tire(0, 0);
        x.hear(-1, 0, true);
        x.hear(0, 0, false);
        Due.is("whatever its state is", x.of(0, 5), 2048);
        Due.is("no matters can not be", x.hear(0, 2, true), 2);
        Due.is("none by that", x.of(0, 6), -5);
    }

    private static void questions() {
        BorderQuestions x = fresh("promise 4");
        Due.is("matters -1", x.question(-1, 0), -2);
        Due.is("matters 4096", x.question(4096, 0), -2);
        Due.is("goods -1", x.question(0, -1), -2);
        Due.is("goods 100", x.question(0, 100), -2);
        for (int q = 0; q < 6; q++) {
            Due.is("question " + q, x.question(4095 * (q & 1), 99 * (q & 1)), q);
        }
        Due.is("full", x.question(0, 0), -4);
        Due.is("bad ahead of full", x.question(0, MAX), -2);
        Due.is("bad matters ahead of full", x.question(MIN, 0), -2);
        Due.is("how many", x.count(1), 6);
    }

    private static void sacks() {
        BorderQuestions x = fresh("promise 5");
        x.guard(GUARD, 0, 255);
        x.question(77, 12);
        Due.is("matters", x.sack(0, 0), 77);
        Due.is("goods", x.sack(0, 1), 12);
        Due.is("state", x.sack(0, 2), 0);
        Due.is("brought", x.sack(0, 3), -5);
        x.bring(0, 0);
        Due.is("brought to 0", x.sack(0, 3), 0);
        x.pass(1);
        Due.is("through", x.sack(0, 2), 1);
        Due.is("still brought", x.sack(0, 3), 0);
        Due.is("what 4", x.sack(0, 4), -1);
        Due.is("what -1", x.sack(0, -1), -1);
        Due.is("question 1", x.sack(1, 0), -1);
        Due.is("question -1", x.sack(-1, 0), -1);
        Due.is("question 6", x.sack(6, 0), -1);
    }

    private static void knowing() {
        BorderQuestions x = fresh("promise 6");
        Due.is("no guard, no matters", x.know(0, -1), -1);
        x.guard(GUARD, 0, 9);
        Due.is("was", x.know(0, 4095), 9);
        Due.is("was", x.know(0, 0), 4095);
        Due.is("4096", x.know(0, 4096), -2);
        Due.is("-1", x.know(0, -1), -2);
        Due.is("guard 1", x.know(1, 0), -1);
        Due.is("guard -1", x.know(-1, 0), -1);
        Due.is("is", x.of(0, 2), 0);
    }

    private static void tiring() {
        BorderQuestions x = fresh("promise 7");
        Due.is("no guard, bad n", x.tire(0, -1), -1);
        x.guard(GUARD, 0, 9);
        Due.is("was", x.tire(0, 99), 0);
        Due.is("was", x.tire(0, 0), 99);
        Due.is("100", x.tire(0, 100), -2);
        Due.is("-1", x.tire(0, -1), -2);
        Due.is("guard 1", x.tire(1, 0), -1);
        Due.is("is", x.of(0, 3), 0);
    }

    private static void bringing() {
        BorderQuestions x = fresh("promise 8");
        x.question(1, 1);
        Due.is("to none, was none", x.bring(0, -1), -5);
        Due.is("no guard 0", x.bring(0, 0), -1);
        x.guard(GUARD, 0, 0);
        x.guard(GUARD, 0, 0);
        Due.is("no question 1", x.bring(1, 0), -1);
        Due.is("no question -1", x.bring(-1, -1), -1);
        Due.is("guard -2", x.bring(0, -2), -1);
        Due.is("guard 2", x.bring(0, 2), -1);
        Due.is("to 1", x.bring(0, 1), -5);
        Due.is("to 0", x.bring(0, 0), 1);
        Due.is("to none", x.bring(0, -1), 0);
        Due.is("none", x.sack(0, 3), -5);
        x.ask(0, 0);
        Due.is("also what is fined", x.bring(0, 1), -5);
        Due.is("is", x.sack(0, 3), 1);
    }

    private static void asking() {
        BorderQuestions x = fresh("promise 9");
        x.guard(GUARD, 0, 0b0100);
        x.question(0b0100, 10);
        x.question(0b1110, 20);
        x.question(0b0100, 30);
        Due.is("no question", x.ask(3, 0), -1);
        Due.is("no guard", x.ask(0, 1), -1);
        Due.is("no guard -1", x.ask(0, -1), -1);
        Due.is("through", x.ask(0, 0), 1);
        Due.is("tired", x.of(0, 3), 10);
        Due.is("not waiting", x.ask(0, 0), -3);
        Due.is("guard ahead of state", x.ask(0, 1), -1);
        Due.is("fined", x.ask(1, 0), 2);
        Due.is("learnt the least that was not known", x.of(0, 2), 0b0110);
        Due.is("not more tired", x.of(0, 3), 10);
        Due.is("not waiting", x.ask(1, 0), -3);
        Due.is("no hour went", x.told(0), 0);
        x.know(0, 4095);
        x.tire(0, 15);
        Due.is("through", x.ask(2, 0), 1);
        Due.is("25", x.of(0, 3), 25);
        askingAtTheEdges();
    }

    private static void askingAtTheEdges() {
        BorderQuestions x = fresh("promise 9, edges");
        x.guard(GUARD, 0, 4095);
        x.guard(LAWYER, 0, 1);
        x.question(4095, 1);
        x.question(1, 1);
        x.question(0, 1);
        x.tire(0, 95);
        Due.is("through", x.ask(0, 0), 1);
        Due.is("99 at most", x.of(0, 3), 99);
        Due.is("fined by nothing new", x.ask(1, 1), 2);
        Due.is("nothing to learn", x.of(1, 2), 1);
        Due.is("wit 0 is not enough", x.of(1, 12), 0);
        Due.is("fined", x.ask(2, 1), 2);
    }

    private static void rows() {
        BorderQuestions x = fresh("promise 10");
        Due.is("no guard", x.row(0, 0, 10), -1);
        x.guard(TOLD, 0, 0);
        x.guard(LAWYER, 0, 0);
        Due.is("part 4", x.row(0, 4, 10), -1);
        Due.is("part -1", x.row(0, -1, 0), -1);
        Due.is("n 10", x.row(0, 3, 10), -2);
        Due.is("n -1", x.row(1, 3, -1), -2);
        Due.is("another kind", x.row(1, 3, 9), -3);
        Due.is("was 0", x.row(0, 3, 9), 0);
        Due.is("was 9", x.row(0, 3, 2), 9);
        Due.is("another part", x.row(0, 0, 7), 0);
        Due.is("was 2", x.row(0, 3, 0), 2);
    }

    private static void feeding() {
        BorderQuestions x = fresh("promise 11");
        Due.is("-1", x.feed(-1), -2);
        Due.is("128", x.feed(128), -2);
        Due.is("0", x.feed(0), 1);
        Due.is("127", x.feed(127), 2);
        for (int i = 3; i <= 100; i++) {
            Due.is("the " + i + "th", x.feed('k'), i);
        }
        Due.is("full", x.feed('k'), -4);
        Due.is("bad ahead of full", x.feed(200), -2);
        Due.is("100 there", x.count(6), 100);
        Due.is("a fault empties it", x.border(), -10);
        Due.is("empty", x.count(6), 0);
        Due.is("first again", x.feed('k'), 1);
    }

    private static void borders() {
        BorderQuestions x = fresh("promise 12");
        Due.is("0", text(x, "rest 7"), 0);
        Due.is("holds", x.told(1), 7);
        Due.is("empty now", x.count(6), 0);
        Due.is("fault", text(x, "rest 8x"), -16);
        Due.is("the one that held holds", x.told(1), 7);
        Due.is("no border came", x.count(2), 1);
        Due.is("1", text(x, "keen 1 p=0"), 1);
        Due.is("rest of one without", x.told(1), 5);
        Due.is("2", text(x, "rest 1;rest 99;keen 5 p>0"), 2);
        Due.is("the last rest", x.told(1), 99);
        Due.is("3", text(x, "rest 00"), 3);
        Due.is("rest 0", x.told(1), 0);
        Due.is("4", text(x, "rest 1;rest 1;rest 1;rest 1;rest 1;rest 1;rest 1;rest 1;rest 1;rest 2"), 4);
        Due.is("5", text(x, "rest 3"), 5);
        x.feed('x');
        Due.is("full, ahead of the fault", x.border(), -4);
        Due.is("the text stays", x.count(6), 1);
        Due.is("holds", x.told(1), 3);
    }

    private static void fault(String text, int place) {
        BorderQuestions x = fresh("promise 12, fault");
        Due.is("'" + text + "'", text(x, text), place < 0 ? 0 : -10 - place);
        Due.is("borders after '" + text + "'", x.count(2), place < 0 ? 1 : 0);
    }

    private static void borderFaults() {
        String[] whole = {"keen 0 p<0", "dull 99 k>99|v=1&t<1|n>2&h=3", "keen 1 !!!!p=1", "keen 1 ((((p=1))))",
            "keen 1 !(!(p=1))&!(p=2|!p=3)", "rest 0;dull 1 p=1;keen 2 n<03", "keen 1 (p=1)|(p=2)&(p=3)"};
        for (String text : whole) {
            fault(text, -1);
        }
        String[] short0 = {"", "k", "keen", "keen ", "keen 1", "keen 1 ", "keen 1 p", "keen 1 p=", "keen 1 p=1&",
            "keen 1 p=1|", "keen 1 !", "keen 1 (p=1", "rest", "rest ", "rest 1;", "dull 12 (p=1&(p=2)"};
        for (String text : short0) {
            fault(text, text.length());
        }
        fault("Keen 1 p=1", 0);
        fault(" rest 1", 0);
        fault("kren 1 p=1", 1);
        fault("dulll 1 p=1", 4);
        fault("keen  1 p=1", 5);
        fault("keen -1 p=1", 5);
        fault("keen 100 p=1", 7);
        fault("keen 1  p=1", 7);
        fault("keen 1p=1", 6);
        fault("keen 1;", 6);
        fault("keen 1 a=1", 7);
        fault("keen 1 )", 7);
        fault("keen 1 p1", 8);
        fault("keen 1 p==1", 9);
        fault("keen 1 p=x", 9);
        fault("keen 1 p=123", 11);
        fault("keen 1 p=1 ", 10);
        fault("keen 1 p=1)", 10);
        fault("keen 1 (p=1;rest 1", 11);
        fault("keen 1 p=1&&p=2", 11);
        fault("keen 1 p=1!p=2", 10);
        fault("keen 1 !!!!!p=1", 11);
        fault("keen 1 (((((p=1)))))", 11);
        fault("keen 1 !(!((p=1)))", 11);
        fault("keen 1 !(!(p=1&p=2)|!p=3)", -1);
        fault("keen 1 !(!(!p=1))", 11);
        fault("keen 1 !((p=1&!p=2&!(p=3)))", 20);
        fault("keen 1 !!!!p=1&!!!!p=2", -1);
        fault("keen 1 !!!!p=1&!!!!!p=2", 19);
        fault("rest 1;;rest 1", 7);
        fault("rest 1;rest 1;rest 1;rest 1;rest 1;rest 1;rest 1;rest 1;rest 1;rest 1;rest 1", 69);
        fault("rest 1 ", 6);
        fault("rest 123", 7);
        fault("rest 1p", 6);
    }

    private static void meaning(String clauses, int want) {
        BorderQuestions x = fresh("promise 12, meaning");
        for (int p = 0; p < 3; p++) {
            x.guard(GUARD, p + 4, 0);
        }
        x.tire(2, 39);
        x.question(0b11, 0);
        x.pass(0);
        text(x, clauses);
        Due.is("'" + clauses + "'", x.of(2, 10), -2 - 3 + want);
    }

    private static void borderMeaning() {
        String[] so = {"p=2", "p>1", "p<3", "k=0", "v=6", "t=3", "n=2", "h=0", "p=1|p=2", "p=2|p=1", "!p=1", "!!p=2",
            "p=1|p=2&v=6", "p=2|v=1&v=2", "(p=2|v=1)&v=6", "!(p=2&v=1)", "!p=1&v=6", "p=1&p=2|n=2", "p<99", "t<04"};
        String[] not = {"p=1", "p>2", "p<2", "k>0", "v<6", "t>3", "n=1", "h=1", "p=1|p=0", "p=2&p=1", "!p=2", "!!p=1",
            "(p=2|v=1)&v=2", "!(p=2|v=1)", "!p=2|v=1", "!p=1&v=5", "p=2&(v=1|n=1)", "p>99"};
        for (String e : so) {
            meaning("keen 7 " + e, 7);
            meaning("dull 12 " + e, -12);
        }
        for (String e : not) {
            meaning("keen 7 " + e, 0);
            meaning("dull 7 " + e, 0);
        }
        meaning("keen 7 p=2;rest 4;keen 20 v=6;dull 9 n=2;dull 50 p=1", 18);
        hoursInBorders();
        kindsAndManyClauses();
        faultsLeaveNothing();
    }

    private static void kindsAndManyClauses() {
        BorderQuestions x = fresh("promise 12, kinds and ten clauses");
        x.guard(DEEP, 9, 0);
        x.guard(LAWYER, 9, 0);
        x.question(3, 0);
        text(x, "keen 1 k=1;rest 7;rest 8;rest 4;keen 3 k>0;dull 4 k=0;keen 5 v=9;keen 6 k=3;keen 7 p=0;keen 9 k=1");
        Due.is("all of the deep one", x.of(0, 10), -2 + 9 + 1 + 3 + 5 + 7 + 9);
        Due.is("all of the lawyer", x.of(1, 10), -2 + 3 + 5 + 6);
        Due.is("rest", x.told(1), 4);
    }

    private static void faultsLeaveNothing() {
        BorderQuestions x = fresh("promise 12, after many faults");
        x.guard(GUARD, 0, 0);
        x.question(0, 0);
        for (int i = 0; i < 6; i++) {
            text(x, "rest 9;keen 1 p=0|p=0|p=0|p=0|p=0|p=0|p=0|p=0|p=0;dull 7 p=0;x");
        }
        text(x, "keen 3 !(p=1|h>0);dull 1 n=0&t=0");
        Due.is("only the last", x.of(0, 10), 2);
        Due.is("rest", x.told(1), 5);
    }

    private static void hoursInBorders() {
        BorderQuestions x = fresh("promise 12, hours");
        x.guard(GUARD, 0, 0);
        x.question(0, 0);
        text(x, "keen 5 h=3;keen 50 h>9");
        x.pass(13);
        Due.is("hour 13", x.of(0, 10), 5);
        x.pass(1);
        Due.is("hour 14", x.of(0, 10), 0);
    }

    private static void telling() {
        BorderQuestions x = fresh("promise 13");
        x.guard(GUARD, 0, 1);
        x.question(1, 10);
        x.question(2, 20);
        x.question(1, 40);
        x.question(4, 9);
        Due.is("waiting", x.told(4), 15);
        x.ask(0, 0);
        x.ask(1, 0);
        x.know(0, 7);
        x.ask(2, 0);
        Due.is("goods", x.told(2), 50);
        Due.is("fined", x.told(3), 1);
        Due.is("waiting", x.told(4), 8);
        x.pass(4);
        Due.is("hour", x.told(0), 4);
        Due.is("rest", x.told(1), 5);
        int[] none = {-1, 7, 8, 9, 14, 15, 16, MIN, MAX, MIN + 10};
        for (int what : none) {
            Due.is("what " + what, x.told(what), -1);
        }
    }

    private static void toldEnough() {
        BorderQuestions x = fresh("promise 13, enough");
        Due.is("nothing to answer", x.told(5), 0);
        x.question(1, 0);
        Due.is("nobody", x.told(5), -5);
        x.guard(GUARD, 0, 2);
        Due.is("nobody who can", x.told(5), -5);
        x.question(2, 0);
        x.question(4, 0);
        x.guard(GUARD, 0, 1);
        x.guard(GUARD, 0, 5);
        x.guard(GUARD, 0, 4);
        Due.is("two of four, the least", x.told(5), 0b0101);
        x.guard(GUARD, 0, 6);
        Due.is("still the least", x.told(5), 0b00101);
        x.know(2, 0);
        Due.is("another two", x.told(5), 0b10010);
        x.guard(DEEP, 9, 0);
        Due.is("one", x.told(5), 0b100000);
        x.tire(5, 99);
        x.ask(0, 1);
        x.tire(1, 0);
        Due.is("what is through does not count", x.told(5), 0b10000);
        x.ask(1, 0);
        x.ask(2, 3);
        Due.is("none waiting", x.told(5), 0);
        allAreNeeded();
    }

    private static void allAreNeeded() {
        BorderQuestions x = fresh("promise 13, all six");
        for (int i = 0; i < 6; i++) {
            x.guard(GUARD, 0, 1 << 5 - i);
            x.question(1 << i, i);
            Due.is("so many are needed", x.told(5), i < 5 ? -5 : 63);
        }
        Due.is("all are brought", x.told(6), 15);
        for (int q = 0; q < 6; q++) {
            Due.is("question " + q, x.told(10 + q), 5 - q);
        }
        x.ask(5, 0);
        Due.is("five are needed", x.told(5), 62);
        Due.is("four are brought", x.told(6), 10);
    }

    private static void toldLoad() {
        BorderQuestions x = fresh("promise 13, load");
        x.question(1, 10);
        x.question(1, 30);
        x.question(3, 0);
        Due.is("nobody", x.told(6), 0);
        Due.is("to none", x.told(10), -5);
        x.guard(GUARD, 0, 1);
        Due.is("one of two", x.told(6), 30);
        Due.is("the lesser to none", x.told(10), -5);
        Due.is("the greater to 0", x.told(11), 0);
        Due.is("nobody free", x.told(12), -5);
        x.guard(GUARD, 0, 3);
        Due.is("both", x.told(6), 40);
        Due.is("first row", x.told(10), 0);
        Due.is("first row", x.told(11), 1);
        Due.is("first row", x.told(12), -5);
        x.guard(GUARD, 0, 3);
        Due.is("no goods, but ahead of none", x.told(12), 2);
        x.ask(1, 0);
        Due.is("what is through is not brought", x.told(11), -5);
        Due.is("10 and 0", x.told(6), 10);
        Due.is("0 is tired but can", x.told(10), 0);
        x.tire(0, 20);
        Due.is("0 can not", x.told(10), 1);
        Due.is("2 is left", x.told(12), 2);
        Due.is("no question 3", x.told(13), -1);
    }

    private static void passing() {
        BorderQuestions x = fresh("promise 14");
        Due.is("-1", x.pass(-1), -2);
        Due.is("61", x.pass(61), -2);
        Due.is("none", x.pass(0), 0);
        x.guard(GUARD, 0, 1);
        x.guard(GUARD, 0, 2);
        x.question(1, 10);
        x.question(1, 20);
        x.question(2, 40);
        x.question(3, 50);
        x.bring(0, 0);
        x.bring(1, 0);
        x.bring(2, 1);
        x.tire(1, 3);
        Due.is("one", x.pass(1), 1);
        Due.is("first through", x.sack(0, 2), 1);
        Due.is("second through, too", x.sack(1, 2), 1);
        Due.is("third through", x.sack(2, 2), 1);
        Due.is("fourth waits", x.sack(3, 2), 0);
        Due.is("tired 20 less 5", x.of(0, 3), 15);
        Due.is("tired 13 less 5", x.of(1, 3), 8);
        Due.is("three", x.pass(3), 4);
        Due.is("not below 0", x.of(0, 3), 0);
        Due.is("nothing asked twice", x.told(2), 70);
        inOneHour();
        for (int i = 0; i < 166; i++) {
            x.pass(60);
        }
        Due.is("9964", x.told(0), 9964);
        Due.is("above", x.pass(36), -3);
        Due.is("bad ahead of state", x.pass(61), -2);
        Due.is("not passed", x.told(0), 9964);
        Due.is("9999", x.pass(35), 9999);
        Due.is("above", x.pass(1), -3);
        Due.is("none goes", x.pass(0), 9999);
    }

    private static void inOneHour() {
        BorderQuestions x = fresh("promise 14, one behind the other");
        x.guard(GUARD, 0, 1);
        x.question(2, 1);
        x.question(3, 1);
        x.question(1, 1);
        x.bring(0, 0);
        x.bring(1, 0);
        x.bring(2, 0);
        text(x, "rest 20;dull 1 t=1&n=1");
        x.pass(1);
        Due.is("0 fined", x.sack(0, 2), 2);
        Due.is("1 through by what was learnt", x.sack(1, 2), 1);
        Due.is("2 fined by being tired", x.sack(2, 2), 2);
        Due.is("knows", x.of(0, 2), 3);
        Due.is("rested", x.of(0, 3), 0);
    }

    private static void onHours() {
        BorderQuestions x = fresh("promise 15");
        x.guard(GUARD, 0, 1);
        x.guard(SHEPHERD, 0, 0);
        x.question(1, 10);
        x.question(2, 20);
        x.bring(0, 0);
        x.bring(1, 0);
        Due.is("none goes", x.on(0, 0), 0);
        Due.is("goods", x.on(1, 0), 10);
        Due.is("knows", x.on(1, 10), 3);
        Due.is("knows now", x.on(0, 10), 1);
        Due.is("tired", x.on(1, 20), 5);
        Due.is("tired", x.on(2, 20), 0);
        Due.is("state", x.on(60, 30), 1);
        Due.is("state", x.on(60, 31), 2);
        Due.is("nothing went", x.sack(0, 2), 0);
        Due.is("no hour went", x.told(0), 0);
        Due.is("bad", x.on(61, 0), -2);
        Due.is("bad", x.on(-1, 31), -2);
        int[] none = {-1, 1, 9, 12, 19, 22, 29, 32, 36, MIN, MAX, MIN + 10, MIN + 30};
        for (int what : none) {
            Due.is("what " + what, x.on(1, what), -1);
            Due.is("what ahead of n, " + what, x.on(61, what), -1);
        }
        ofOtherKinds();
        beyondTheLastHour();
    }

    private static void ofOtherKinds() {
        BorderQuestions x = fresh("promise 15, other kinds");
        x.guard(DEEP, 9, 0);
        x.guard(TOLD, 0, 0);
        x.guard(LAWYER, 0, 1);
        for (int p = 0; p < 3; p++) {
            x.question(1, 10 << p);
            x.bring(p, p);
        }
        x.row(1, 1, 5);
        Due.is("deep and told can, the lawyer can not", x.on(1, 0), 30);
        Due.is("deep learns nothing", x.on(1, 10), 0);
        x.row(1, 1, 4);
        Due.is("told learns", x.on(1, 11), 1);
    }

    private static void beyondTheLastHour() {
        BorderQuestions x = fresh("promise 15, beyond 9999");
        x.guard(GUARD, 0, 0);
        x.question(0, 10);
        for (int i = 0; i < 166; i++) {
            x.pass(60);
        }
        x.pass(39);
        x.tire(0, 99);
        Due.is("rest goes on", x.on(10, 20), 49);
        x.bring(0, 0);
        Due.is("fined at 9999", x.on(1, 30), 2);
        text(x, "keen 30 h=9");
        Due.is("through at 9999", x.on(1, 30), 1);
        Due.is("the plan goes on, too", x.plan(0, 0), 1);
        x.plan(3, 0);
        x.plan(0, 0);
        Due.is("fined at 10000", x.ends(1), 1);
    }

    private static void hearing() {
        BorderQuestions x = fresh("promise 16");
        Due.is("none there", x.hear(-1, 99, true), 0);
        Due.is("no guard", x.hear(0, 0, true), -1);
        x.guard(GUARD, 0, 1);
        Due.is("no question", x.hear(0, 0, true), -1);
        x.question(1, 10);
        for (int i = 1; i <= 5; i++) {
            Due.is("row " + i, x.hear(0, 0, true), i);
        }
        Due.is("full", x.hear(0, 0, false), -4);
        Due.is("none ahead of full", x.hear(1, 0, false), -1);
        Due.is("none ahead of full", x.hear(-2, 0, false), -1);
        Due.is("none ahead of full", x.hear(0, -1, false), -1);
        Due.is("how many", x.count(3), 5);
        Due.is("emptied", x.hear(-1, 0, false), 0);
        Due.is("how many", x.count(3), 0);
    }

    private static void canBe() {
        BorderQuestions x = fresh("promise 17");
        x.guard(DEEP, 2, 1);
        x.guard(GUARD, 2, 1);
        x.question(0b1110, 10);
        x.question(0b1111110, 10);
        Due.is("all", x.can(0, 0), 10);
        Due.is("the least of all", x.can(0, 1), 0);
        x.hear(0, 0, true);
        Due.is("4 to 9", x.can(0, 0), 6);
        Due.is("4", x.can(0, 1), 4);
        x.hear(0, 1, false);
        Due.is("4 to 6", x.can(0, 0), 3);
        Due.is("4", x.can(0, 1), 4);
        x.hear(1, 0, true);
        Due.is("none", x.can(1, 0), 0);
        Due.is("none", x.can(1, 1), -5);
        text(x, "keen 9 k=0&v>6");
        Due.is("by the border: 7, 8, 9", x.can(1, 0), 3);
        Due.is("by the border: 7", x.can(1, 1), 7);
        Due.is("v stays", x.of(1, 1), 2);
        x.hear(-1, 0, true);
        text(x, "keen 9 k=0&v>8");
        x.hear(1, 0, true);
        Due.is("by the border: 9", x.can(1, 0), 1);
        Due.is("by the border: 9", x.can(1, 1), 9);
        x.hear(1, 0, false);
        Due.is("both can not be", x.can(1, 0), 0);
        Due.is("both can not be", x.can(1, 1), -5);
        Due.is("what 2", x.can(0, 2), -1);
        Due.is("what -1", x.can(0, -1), -1);
        Due.is("guard 2", x.can(2, 0), -1);
        Due.is("guard -1", x.can(-1, 0), -1);
    }

    private static void oddsByOneMore() {
        BorderQuestions x = fresh("promise 18");
        x.guard(GUARD, 0, 0b111);
        x.guard(LAWYER, 0, 0b1);
        x.question(0, 10);
        x.question(0b1, 10);
        x.question(0b111000, 10);
        Due.is("3 of 12", x.odds(0, 0, 0), 1);
        Due.is("3 of 12", x.odds(0, 0, 1), 4);
        Due.is("all", x.odds(0, 1, 0), 1);
        Due.is("all", x.odds(0, 1, 1), 1);
        Due.is("none", x.odds(0, 2, 0), 0);
        Due.is("none", x.odds(0, 2, 1), 1);
        Due.is("11 of 12: the same one leaves it at one", x.odds(1, 1, 0), 11);
        Due.is("11 of 12", x.odds(1, 1, 1), 12);
        Due.is("guard", x.odds(2, 1, 0), NO);
        Due.is("guard -1", x.odds(-1, 1, 0), NO);
        Due.is("question", x.odds(0, 3, 0), NO);
        Due.is("part", x.odds(0, 0, 2), NO);
        Due.is("part -1", x.odds(0, 0, -1), NO);
    }

    private static void means() {
        BorderQuestions x = fresh("promise 19");
        Due.is("none there", x.mean(0), NO);
        Due.is("none there", x.mean(1), NO);
        x.guard(GUARD, 0, 0);
        Due.is("0 of 1", x.mean(0), 0);
        Due.is("0 of 1", x.mean(1), 1);
        x.guard(GUARD, 0, 0b111);
        Due.is("3 of 2", x.mean(0), 3);
        Due.is("3 of 2", x.mean(1), 2);
        x.guard(GUARD, 0, 0b111);
        x.guard(GUARD, 0, 4095);
        Due.is("18 of 4", x.mean(0), 9);
        Due.is("18 of 4", x.mean(1), 2);
        Due.is("part", x.mean(2), NO);
        Due.is("part", x.mean(-1), NO);
    }

    private static void plans() {
        BorderQuestions x = fresh("promise 20");
        Due.is("empty", x.plan(-1, MIN), 0);
        Due.is("an hour, whatever n is", x.plan(0, MIN), 1);
        Due.is("no question", x.plan(1, 0), -1);
        x.question(1, 0);
        Due.is("no guard", x.plan(1, 0), -1);
        x.guard(GUARD, 0, 0);
        x.guard(GUARD, 0, 0);
        Due.is("question 0, guard 1", x.plan(1, 1), 2);
        Due.is("question 0, guard 2", x.plan(1, 2), -1);
        Due.is("question 1, guard 0", x.plan(1, 10), -1);
        Due.is("below 0", x.plan(1, -1), -1);
        Due.is("below 0", x.plan(1, -10), -1);
        Due.is("guard 1", x.plan(2, 1), 3);
        Due.is("guard 2", x.plan(2, 2), -1);
        Due.is("guard -1", x.plan(2, -1), -1);
        Due.is("question 0", x.plan(3, 0), 4);
        Due.is("question 1", x.plan(3, 1), -1);
        Due.is("question -1", x.plan(3, -1), -1);
        Due.is("what 4", x.plan(4, 0), -1);
        Due.is("what -2", x.plan(-2, 0), -1);
        for (int i = 5; i <= 10; i++) {
            Due.is("row " + i, x.plan(0, i), i);
        }
        Due.is("full", x.plan(0, 0), -4);
        Due.is("none ahead of full", x.plan(1, 99), -1);
        Due.is("how many", x.count(4), 10);
        Due.is("empty", x.plan(-1, 0), 0);
        Due.is("how many", x.count(4), 0);
    }

    private static void endings() {
        BorderQuestions x = fresh("promise 21");
        x.guard(GUARD, 0, 0b11);
        x.guard(GUARD, 0, 0b100);
        x.question(0b1, 10);
        x.question(0b11, 20);
        x.question(0b100, 40);
        x.question(0b100, 5);
        Due.is("nothing goes", x.ends(0), 0);
        x.bring(2, 1);
        x.tire(0, 40);
        x.plan(1, 0);
        Due.is("0 by 0: too tired", x.ends(1), 1);
        x.plan(3, 0);
        Due.is("waiting again", x.ends(1), 0);
        x.plan(2, 0);
        x.plan(1, 0);
        Due.is("through", x.ends(0), 10);
        x.plan(1, 1);
        Due.is("not asked twice", x.ends(1), 0);
        x.plan(0, 0);
        Due.is("2 by the hour", x.ends(0), 50);
        x.plan(1, 30);
        Due.is("3 by 0: learns", x.ends(1), 1);
        x.plan(3, 3);
        x.plan(1, 30);
        Due.is("3 by 0: learnt", x.ends(0), 55);
        Due.is("none fined", x.ends(1), 0);
        Due.is("what 2", x.ends(2), -1);
        Due.is("what -1", x.ends(-1), -1);
        Due.is("nothing went", x.told(4), 15);
        Due.is("nothing learnt", x.of(0, 2), 3);
        Due.is("still tired", x.of(0, 3), 40);
        Due.is("no hour", x.told(0), 0);
        endingsByTired();
    }

    private static void endingsByTired() {
        BorderQuestions x = fresh("promise 21, tired becomes 0");
        x.guard(GUARD, 0, 1);
        x.question(1, 10);
        x.question(3, 20);
        text(x, "rest 1");
        x.tire(0, 1);
        x.plan(1, 0);
        x.plan(0, 0);
        x.plan(1, 10);
        Due.is("10 is left", x.ends(0), 10);
        x.plan(-1, 0);
        x.plan(2, 0);
        x.plan(1, 0);
        x.plan(0, 0);
        x.plan(1, 10);
        Due.is("9 is left", x.ends(0), 30);
    }

    private static void books() {
        BorderQuestions x = fresh("promise 22");
        Due.is("no question", x.book(0, 100), -1);
        Due.is("empty", x.book(-1, 100), 0);
        x.question(1, 7);
        Due.is("goods -1", x.book(0, -1), -2);
        Due.is("goods 100", x.book(0, 100), -2);
        for (int i = 1; i <= 8; i++) {
            Due.is("row " + i, x.book(0, i == 1 ? 0 : 99), i);
        }
        Due.is("full", x.book(0, 1), -4);
        Due.is("bad ahead of full", x.book(0, 100), -2);
        Due.is("none ahead of full", x.book(1, 0), -1);
        Due.is("none ahead of full", x.book(-2, 0), -1);
        Due.is("how many", x.count(5), 8);
        Due.is("empty", x.book(-1, 0), 0);
        Due.is("how many", x.count(5), 0);
    }

    private static void lookedAt() {
        BorderQuestions x = fresh("promise 23");
        Due.is("no rows", x.looked(), -5);
        x.question(1, 7);
        x.question(1, 8);
        x.book(0, 7);
        x.book(1, 8);
        Due.is("all so", x.looked(), -5);
        x.book(0, 8);
        Due.is("row 2", x.looked(), 2);
        x.book(1, 9);
        Due.is("still row 2", x.looked(), 2);
        x.book(-1, 0);
        x.book(1, 7);
        Due.is("row 0", x.looked(), 0);
    }

    private static void judging() {
        BorderQuestions x = fresh("promise 24");
        Due.is("tape -1", x.judge(-1, 0), -1);
        Due.is("tape 6", x.judge(6, 0), -1);
        Due.is("no guards, no tape", x.judge(0, 0), -5);
        Due.is("no guards, no place", x.judge(0, MIN), -5);
        x.tape(1, 0, 3);
        Due.is("no guards, bytes", x.judge(1, 0), -12);
        x.guard(GUARD, 0, 1000);
        x.guard(GUARD, 0, 2000);
        x.guard(GUARD, 0, 0);
        Due.is("nothing there", x.judge(0, 0), 100);
        Due.is("bytes", x.judge(1, 9), -12);
        x.tape(0, 1, 5);
        Due.is("0 is otherwise", x.judge(0, 1), 0);
        Due.is("0 is otherwise from 0 on", x.judge(0, 0), 0);
        x.item(0, 1, 1000);
        Due.is("1 is otherwise", x.judge(0, 1), 1);
        x.item(0, 2, 2000);
        Due.is("all so", x.judge(0, 1), -5);
        x.item(0, 3, 1000);
        x.item(0, 4, 2000);
        Due.is("2 is otherwise", x.judge(0, 1), 2);
        Due.is("the row ends after 2", x.judge(0, 3), 102);
        Due.is("the row ends", x.judge(0, 5), 100);
        Due.is("beyond", x.judge(0, MAX), 100);
        Due.is("below 0", x.judge(0, -1), 100);
        Due.is("far below 0", x.judge(0, MIN), 100);
        x.item(0, 4, 2001);
        Due.is("otherwise ahead of the end", x.judge(0, 3), 1);
        x.tape(0, 1, 0);
        Due.is("an empty row", x.judge(0, 0), 100);
    }

    private static void imageAndUndo() {
        BorderQuestions x = fresh("promises 25 and 26");
        Due.is("none", x.undo(), -3);
        x.guard(TOLD, 1, 5);
        x.question(3, 10);
        x.row(0, 2, 8);
        x.bring(0, 0);
        x.tire(0, 7);
        x.hear(0, 0, true);
        x.plan(2, 0);
        x.book(0, 10);
        text(x, "rest 1");
        x.pass(0);
        Due.is("image", x.image(), 1);
        x.guard(BOY, 2, 6);
        x.question(4, 11);
        x.row(0, 2, 3);
        x.know(0, 4095);
        x.tire(0, 9);
        x.pass(5);
        x.bring(0, 1);
        x.hear(1, 1, false);
        x.plan(0, 0);
        x.book(0, 3);
        text(x, "rest 44");
        x.feed('k');
        x.tape(3, 3, 2);
        x.act(0, 0, 0);
        Due.is("undo", x.undo(), 1);
        int[] due = {1, 1, 2, 1, 1, 1, 1, 2};
        for (int what = 0; what < 8; what++) {
            Due.is("count " + what, x.count(what), due[what]);
        }
        Due.is("row", x.row(0, 2, 8), 8);
        Due.is("knows", x.of(0, 2), 5);
        Due.is("tired", x.of(0, 3), 7);
        Due.is("waiting", x.sack(0, 2), 0);
        Due.is("brought", x.sack(0, 3), 0);
        Due.is("hour", x.told(0), 0);
        Due.is("the border that held", x.told(1), 1);
        Due.is("book", x.looked(), -5);
        Due.is("guard 1 is gone", x.of(1, 0), -10001);
        Due.is("tapes stay", x.read(3, 1), 0);
        againAfterUndo(x);
    }

    private static void againAfterUndo(BorderQuestions x) {
        Due.is("a new guard 1", x.guard(TOLD, 0, 0), 1);
        Due.is("its row is 0", x.row(1, 2, 4), 0);
        Due.is("its tired is 0", x.of(1, 3), 0);
        Due.is("a new question 1", x.question(1, 1), 1);
        Due.is("it waits", x.sack(1, 2), 0);
        Due.is("brought to none", x.sack(1, 3), -5);
        x.ask(0, 0);
        Due.is("the image is still there", x.undo(), 1);
        Due.is("waiting", x.sack(0, 2), 0);
        Due.is("the text was not undone", x.border(), -11);
        Due.is("the next border", text(x, "rest 2"), 2);
        Due.is("image", x.image(), 1);
        x.hear(-1, 0, true);
        x.plan(-1, 0);
        x.book(-1, 0);
        x.guard(GUARD, 0, 0);
        Due.is("undo", x.undo(), 1);
        Due.is("heard", x.count(3), 1);
        Due.is("plan", x.count(4), 1);
        Due.is("book", x.count(5), 1);
        Due.is("rest", x.told(1), 2);
        BorderQuestions none = new BorderQuestions();
        Due.is("an image of nothing", none.image(), 0);
        text(none, "rest 9");
        Due.is("undo", none.undo(), 0);
        Due.is("none holds", none.told(1), 5);
        Due.is("but it counts", none.count(2), 1);
    }

    private static void acting() {
        BorderQuestions x = fresh("promise 27");
        for (int kind = 0; kind < 6; kind++) {
            x.guard(kind, 5, 0);
        }
        int[] listens = {4, 5, 14, 7, -8, 17};
        int[] nods = {-1, 6, 9, 2, -12, 12};
        for (int p = 0; p < 6; p++) {
            Due.is("listens " + p, x.act(p, 0, 4), listens[p]);
            Due.is("nods " + p, x.act(p, 1, 4), nods[p]);
        }
        Due.is("guard tells", x.act(0, 2, 4), -2);
        Due.is("deep tells", x.act(1, 2, 4), 12);
        Due.is("simple tells", x.act(2, 2, 4), 18);
        Due.is("lawyer tells", x.act(3, 2, 4), 3);
        Due.is("shepherd tells", x.act(4, 2, 4), -24);
        Due.is("boy tells", x.act(5, 2, 4), -6);
        Due.is("wraps", x.act(2, 0, MAX), MAX * 3 + 2);
        Due.is("wraps", x.act(0, 2, MIN), (MIN - 5) * 2);
        Due.is("no guard", x.act(6, 0, 4), 0);
        Due.is("no trace", x.count(7), 0);
        x.act(0, 0, 4);
        Due.is("no act", x.act(0, 3, 4), 0);
        Due.is("no trace", x.trace(0), -1);
        Due.is("no act -1", x.act(0, -1, 4), 0);
        Due.is("no guard -1", x.act(-1, 0, 4), 0);
        for (int p = 0; p < 6; p++) {
            Due.is("no act 3 of " + p, x.act(p, 3, 4), 0);
            Due.is("no act -1 of " + p, x.act(p, -1, 4), 0);
            Due.is("no act -2 of " + p, x.act(p, -2, 4), 0);
            Due.is("no trace", x.count(7), 0);
        }
        BorderQuestions y = new BorderQuestions();
        y.guard(GUARD, 0, 0);
        y.guard(TOLD, 6, 0);
        Due.is("told listens", y.act(1, 0, 4), 5 ^ 6);
        Due.is("told nods", y.act(1, 1, 4), (5 ^ 6) - 6 + 3);
        Due.is("told tells", y.act(1, 2, 4), ((5 ^ 6) - 6 + 3) * 2 + (2 ^ 6) - 6 + 3);
    }

    private static void trace(BorderQuestions x, int p, int act, int... bodies) {
        x.act(p, act, 1);
        Due.is("how many by " + act + " of " + p, x.count(7), bodies.length);
        for (int i = 0; i < bodies.length; i++) {
            Due.is("body " + i + " by " + act + " of " + p, x.trace(i), bodies[i]);
        }
        Due.is("none behind", x.trace(bodies.length), -1);
        Due.is("none ahead", x.trace(-1), -1);
    }

    private static void tracing() {
        BorderQuestions x = fresh("promise 28");
        Due.is("none at first", x.trace(0), -1);
        x.guard(LAWYER, 1, 0);
        x.guard(DEEP, 1, 0);
        x.guard(SIMPLE, 1, 0);
        x.guard(SHEPHERD, 1, 0);
        x.guard(BOY, 1, 0);
        x.guard(TOLD, 1, 0);
        trace(x, 0, 0, 10);
        trace(x, 0, 2, 40, 12, 11, 10, 11, 10);
        trace(x, 1, 1, 20, 11, 10);
        trace(x, 1, 2, 12, 20, 11, 10);
        trace(x, 2, 1, 11, 30, 10);
        trace(x, 3, 0, 50, 10);
        trace(x, 3, 1, 51, 20, 11, 50, 10);
        trace(x, 4, 2, 60, 12, 11, 30, 10);
        trace(x, 5, 0, 71, 10);
        trace(x, 5, 1, 70, 11, 71, 10, 10);
        trace(x, 5, 2, 40, 12, 70, 11, 71, 10, 10, 70, 11, 71, 10, 10);
        Due.is("far", x.trace(MAX), -1);
        Due.is("far below", x.trace(MIN), -1);
    }

    private static void taking() {
        BorderQuestions x = fresh("promise 29");
        for (int kind = 0; kind < 6; kind++) {
            x.guard(kind + 1, 0, 0);
        }
        int[][] under = {{0, 1}, {0, 2}, {0, 3}, {0, 1, 4}, {0, 2, 5}, {0, 3, 6}};
        for (int p = 0; p < 6; p++) {
            int bits = 0;
            for (int k : under[p]) {
                bits |= 1 << k;
            }
            for (int k = 0; k < 7; k++) {
                Due.is(p + " for " + k, x.taken(p, k), (bits >> k & 1) == 1 ? p + 1 : -12);
            }
        }
        Due.is("k 7", x.taken(0, 7), -2);
        Due.is("k -1, no guard", x.taken(9, -1), -2);
        Due.is("no guard", x.taken(6, 0), -11);
        Due.is("no guard", x.taken(-1, 6), -11);
        BorderQuestions y = new BorderQuestions();
        y.guard(GUARD, 0, 0);
        Due.is("a plain one", y.taken(0, 0), 0);
        Due.is("a plain one for a deep one", y.taken(0, 1), -12);
    }

    private static void counting() {
        BorderQuestions x = fresh("promise 30");
        x.guard(GUARD, 0, 0);
        x.question(0, 0);
        x.question(0, 0);
        text(x, "rest 1");
        text(x, "rest 1");
        text(x, "rest 1");
        for (int i = 0; i < 4; i++) {
            x.hear(0, 0, true);
        }
        for (int i = 0; i < 5; i++) {
            x.plan(0, 0);
        }
        for (int i = 0; i < 6; i++) {
            x.book(0, 0);
        }
        for (int i = 0; i < 7; i++) {
            x.feed(' ');
        }
        for (int what = 0; what < 7; what++) {
            Due.is("what " + what, x.count(what), what + 1);
        }
        x.act(0, 2, 0);
        Due.is("what 7", x.count(7), 3);
        Due.is("what 8", x.count(8), -2);
        Due.is("what -1", x.count(-1), -2);
    }

    private static void tapes() {
        BorderQuestions x = fresh("promise 31");
        Due.is("tape -1", x.tape(-1, 9, 0), -1);
        Due.is("tape 6", x.tape(6, 0, 0), -1);
        Due.is("sort 5", x.tape(0, 5, -1), -2);
        Due.is("sort -2", x.tape(0, -2, 0), -2);
        Due.is("61", x.tape(0, 0, 61), -2);
        Due.is("-1", x.tape(0, 0, -1), -14);
        Due.is("far", x.tape(0, 0, MAX), -2);
        Due.is("far below", x.tape(0, 0, MIN), -14);
        Due.is("none came", x.item(0, 0, 0), -11);
        for (int sort = 0; sort < 5; sort++) {
            Due.is("sort " + sort, x.tape(0, sort, 60), 1);
            Due.is("its last", x.item(0, 59, 1), 1);
            Due.is("no more", x.item(0, 60, 1), -13);
            Due.is("is 1", x.read(0, 59), 1);
            Due.is("the rest is 0", x.read(0, 58), 0);
        }
        Due.is("again", x.tape(0, 4, 60), 1);
        Due.is("all 0 again", x.read(0, 59), 0);
        Due.is("refused", x.tape(0, 3, 61), -2);
        Due.is("stays", x.read(0, 59), 0);
        Due.is("empty", x.tape(0, 3, 0), 1);
        Due.is("no place", x.item(0, 0, 0), -13);
        Due.is("nothing, whatever n is", x.tape(0, -1, MIN), 1);
        Due.is("nothing there", x.item(0, 0, 0), -11);
    }

    private static void items() {
        BorderQuestions x = fresh("promise 32");
        Due.is("tape 6", x.item(6, 0, 0), -1);
        Due.is("tape -1", x.item(-1, 0, 0), -1);
        Due.is("nothing", x.item(0, -1, 0), -11);
        long v = 0x8000_8000_8000_8081L;
        long[] due = {(byte) 0x81, (short) 0x8081, 0x80008081, v, 1};
        for (int sort = 0; sort < 5; sort++) {
            x.tape(sort, sort, 2);
            Due.is("item", x.item(sort, 1, v), 1);
            Due.is("lowest bits, sort " + sort, x.read(sort, 1), due[sort]);
            Due.is("256", x.item(sort, 0, 1L << 32), 1);
            Due.is("bit 32, sort " + sort, x.read(sort, 0), sort == 3 ? 1L << 32 : sort == 4 ? 1 : 0);
            Due.is("place 2", x.item(sort, 2, 0), -13);
            Due.is("place -1", x.item(sort, -1, 0), -13);
        }
        Due.is("false again", x.item(4, 1, 0), 1);
        Due.is("is 0", x.read(4, 1), 0);
    }

    private static void readings() {
        BorderQuestions x = fresh("promise 33");
        Due.is("tape -1", x.read(-1, 0), NO);
        Due.is("tape 6", x.read(6, 0), NO);
        Due.is("nothing", x.read(5, 0), NO);
        x.tape(5, 2, 3);
        x.item(5, 2, -7);
        Due.is("item", x.read(5, 2), -7);
        Due.is("0 at first", x.read(5, 0), 0);
        Due.is("place 3", x.read(5, 3), NO);
        Due.is("place -1", x.read(5, -1), NO);
        Due.is("far", x.read(5, MAX), NO);
    }

    private static void shifts() {
        BorderQuestions x = fresh("promise 34");
        x.tape(0, 2, 5);
        x.tape(1, 2, 3);
        x.tape(2, 3, 3);
        for (int i = 0; i < 5; i++) {
            x.item(0, i, i + 1);
        }
        Due.is("tape 6", x.shift(6, 0, 3, 0, 1), -1);
        Due.is("other -1", x.shift(3, 0, -1, 0, 1), -1);
        Due.is("nothing", x.shift(3, 0, 0, 0, -1), -11);
        Due.is("nothing there", x.shift(0, 0, 3, 0, -1), -11);
        Due.is("unlike", x.shift(0, -1, 2, 0, 1), -12);
        int[][] places = {{-1, 0, 1}, {0, -1, 1}, {0, 0, -1}, {3, 0, 3}, {0, 1, 3}, {6, 0, 0}, {0, 4, 0}, {MAX, 0, 1},
            {1, 0, MAX}, {0, MAX, 2}, {MIN, 0, 0}, {0, 0, MIN}};
        for (int[] p : places) {
            Due.is("place " + p[0] + " " + p[1] + " " + p[2], x.shift(0, p[0], 1, p[1], p[2]), -13);
        }
        Due.is("none at the ends", x.shift(0, 5, 1, 3, 0), 0);
        Due.is("two", x.shift(0, 3, 1, 1, 2), 2);
        long[] due = {0, 4, 5};
        for (int i = 0; i < 3; i++) {
            Due.is("item " + i, x.read(1, i), due[i]);
        }
        Due.is("up over itself", x.shift(0, 0, 0, 1, 4), 4);
        long[] up = {1, 1, 2, 3, 4};
        for (int i = 0; i < 5; i++) {
            Due.is("up, item " + i, x.read(0, i), up[i]);
        }
        Due.is("down over itself", x.shift(0, 2, 0, 0, 3), 3);
        long[] down = {2, 3, 4, 3, 4};
        for (int i = 0; i < 5; i++) {
            Due.is("down, item " + i, x.read(0, i), down[i]);
        }
        x.tape(3, 2, 0);
        Due.is("empty ones", x.shift(3, 0, 3, 0, 0), 0);
    }

    private static void constants() {
        Due.about("the face");
        Due.is("NONE", BorderQuestions.NONE, -1);
        Due.is("BAD", BorderQuestions.BAD, -2);
        Due.is("STATE", BorderQuestions.STATE, -3);
        Due.is("FULL", BorderQuestions.FULL, -4);
        Due.is("NO", BorderQuestions.NO, NO);
    }
}
