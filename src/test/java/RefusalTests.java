import java.util.function.Supplier;

/**
 * What is answered by a refusal changes nothing; of two refusals that fit the one that the call's words name first is
 * answered. Each is looked at in a world where the same call, one nearer, is taken.
 */
public final class RefusalTests {
    private static final int MIN = Integer.MIN_VALUE, MAX = Integer.MAX_VALUE;
    private static final int NONE = -1, BAD = -2, STATE = -3, FULL = -4, FAR = -10001;
    private static final int NOTHING = -11, CAST = -12, PLACE = -13, SIZE = -14;
    private static final long NO = Long.MIN_VALUE;
    private static final Supplier<BorderQuestions> EMPTY = Worlds::empty, SOME = Worlds::some, ALL = Worlds::full,
        TEXT = Worlds::fullText, LATE = Worlds::late;

    private RefusalTests() {
    }

    public static void main(String[] args) {
        guards();
        ofs();
        questions();
        sacks();
        knows();
        tires();
        brings();
        asks();
        rows();
        feeds();
        borders();
        tolds();
        passes();
        ons();
        hears();
        cans();
        oddsAndMeans();
        plans();
        endings();
        books();
        judges();
        undos();
        acts();
        traces();
        takens();
        counts();
        tapes();
        items();
        reads();
        shifts();
        Due.end();
    }

    private static void no(String name, Supplier<BorderQuestions> world, long due, Look.Call call) {
        Look.nothing(name, world, due, call);
    }

    private static void guards() {
        Due.about("promise 2, guard: NONE: kind; BAD: v, knows; FULL: 6");
        no("kind -1", SOME, NONE, x -> x.guard(-1, 0, 0));
        no("kind 7", SOME, NONE, x -> x.guard(7, 0, 0));
        no("kind MIN", SOME, NONE, x -> x.guard(MIN, 0, 0));
        no("v -1", SOME, BAD, x -> x.guard(0, -1, 0));
        no("v 10", SOME, BAD, x -> x.guard(0, 10, 0));
        no("knows -1", SOME, BAD, x -> x.guard(0, 0, -1));
        no("knows 4096", SOME, BAD, x -> x.guard(0, 0, 4096));
        no("knows MIN", SOME, BAD, x -> x.guard(0, 0, MIN));
        no("the seventh", ALL, FULL, x -> x.guard(0, 0, 0));
        no("NONE ahead of BAD (v)", SOME, NONE, x -> x.guard(7, 10, 0));
        no("NONE ahead of BAD (knows)", SOME, NONE, x -> x.guard(-1, 0, 4096));
        no("NONE ahead of FULL", ALL, NONE, x -> x.guard(7, 0, 0));
        no("BAD (v) ahead of FULL", ALL, BAD, x -> x.guard(6, 10, 0));
        no("BAD (knows) ahead of FULL", ALL, BAD, x -> x.guard(6, 9, 4096));
        no("in a new one", EMPTY, BAD, x -> x.guard(6, 9, -1));
    }

    private static void ofs() {
        Due.about("promise 3, of: -10001: NONE");
        int[] whats = {-1, 7, 8, 9, 14, 15, 16, 19, 24, 25, 26, 30, MIN, MAX, MIN + 10, MIN + 20};
        for (int what : whats) {
            no("what " + what, SOME, FAR, x -> x.of(0, what));
        }
        no("what 16, all six there", ALL, FAR, x -> x.of(0, 16));
        no("what 26, all six there", ALL, FAR, x -> x.of(0, 26));
        no("guard -1", SOME, FAR, x -> x.of(-1, 0));
        no("guard 3 of three", SOME, FAR, x -> x.of(3, 0));
        no("guard 6", ALL, FAR, x -> x.of(6, 0));
        no("guard MIN", ALL, FAR, x -> x.of(MIN, 0));
        no("guard 0 of none", EMPTY, FAR, x -> x.of(0, 0));
    }

    private static void questions() {
        Due.about("promise 4, question: BAD: matters, goods; FULL: 6");
        no("matters -1", SOME, BAD, x -> x.question(-1, 0));
        no("matters 4096", SOME, BAD, x -> x.question(4096, 0));
        no("goods -1", SOME, BAD, x -> x.question(0, -1));
        no("goods 100", SOME, BAD, x -> x.question(0, 100));
        no("the seventh", ALL, FULL, x -> x.question(0, 0));
        no("BAD (matters) ahead of FULL", ALL, BAD, x -> x.question(4096, 0));
        no("BAD (goods) ahead of FULL", ALL, BAD, x -> x.question(0, 100));
    }

    private static void sacks() {
        Due.about("promise 5, sack: NONE");
        int[] whats = {-1, 4, MIN, MAX};
        for (int what : whats) {
            no("what " + what, SOME, NONE, x -> x.sack(0, what));
        }
        no("question -1", SOME, NONE, x -> x.sack(-1, 0));
        no("question 4 of four", SOME, NONE, x -> x.sack(4, 0));
        no("question 6", ALL, NONE, x -> x.sack(6, 0));
        no("question 0 of none", EMPTY, NONE, x -> x.sack(0, 0));
    }

    private static void knows() {
        Due.about("promise 6, know: NONE; BAD");
        no("guard -1", SOME, NONE, x -> x.know(-1, 0));
        no("guard 3 of three", SOME, NONE, x -> x.know(3, 0));
        no("guard 6", ALL, NONE, x -> x.know(6, 0));
        no("matters -1", SOME, BAD, x -> x.know(0, -1));
        no("matters 4096", SOME, BAD, x -> x.know(0, 4096));
        no("matters MIN", SOME, BAD, x -> x.know(0, MIN));
        no("NONE ahead of BAD", SOME, NONE, x -> x.know(3, 4096));
        no("NONE ahead of BAD", SOME, NONE, x -> x.know(-1, -1));
    }

    private static void tires() {
        Due.about("promise 7, tire: NONE; BAD");
        no("guard -1", SOME, NONE, x -> x.tire(-1, 0));
        no("guard 3 of three", SOME, NONE, x -> x.tire(3, 0));
        no("guard 6", ALL, NONE, x -> x.tire(6, 0));
        no("n -1", SOME, BAD, x -> x.tire(0, -1));
        no("n 100", SOME, BAD, x -> x.tire(0, 100));
        no("NONE ahead of BAD", SOME, NONE, x -> x.tire(3, 100));
        no("NONE ahead of BAD", SOME, NONE, x -> x.tire(-1, -1));
    }

    private static void brings() {
        Due.about("promise 8, bring: NONE");
        no("question -1", SOME, NONE, x -> x.bring(-1, 0));
        no("question 4 of four", SOME, NONE, x -> x.bring(4, 0));
        no("question 6", ALL, NONE, x -> x.bring(6, 0));
        no("guard -2", SOME, NONE, x -> x.bring(0, -2));
        no("guard 3 of three", SOME, NONE, x -> x.bring(0, 3));
        no("guard 6", ALL, NONE, x -> x.bring(0, 6));
        no("guard -5, as none is answered", SOME, NONE, x -> x.bring(0, -5));
        no("no question, to none", SOME, NONE, x -> x.bring(4, -1));
        no("no question, though it is to none", SOME, NONE, x -> x.bring(-1, -1));
        no("no question of none", EMPTY, NONE, x -> x.bring(0, -1));
    }

    private static void asks() {
        Due.about("promise 9, ask: NONE; STATE: it is not WAITING");
        no("question -1", SOME, NONE, x -> x.ask(-1, 0));
        no("question 4 of four", SOME, NONE, x -> x.ask(4, 0));
        no("guard -1", SOME, NONE, x -> x.ask(0, -1));
        no("guard 3 of three", SOME, NONE, x -> x.ask(0, 3));
        no("question 6, guard 6", ALL, NONE, x -> x.ask(6, 6));
        no("THROUGH", SOME, STATE, x -> x.ask(2, 0));
        no("FINED", SOME, STATE, x -> x.ask(3, 1));
        no("NONE (guard) ahead of STATE, THROUGH", SOME, NONE, x -> x.ask(2, 3));
        no("NONE (guard) ahead of STATE, FINED", SOME, NONE, x -> x.ask(3, -1));
    }

    private static void rows() {
        Due.about("promise 10, row: NONE: guard, part; BAD; STATE: another KIND");
        no("guard -1", SOME, NONE, x -> x.row(-1, 0, 0));
        no("guard 3 of three", SOME, NONE, x -> x.row(3, 0, 0));
        no("part -1", SOME, NONE, x -> x.row(1, -1, 0));
        no("part 4", SOME, NONE, x -> x.row(1, 4, 0));
        no("n -1", SOME, BAD, x -> x.row(1, 0, -1));
        no("n 10", SOME, BAD, x -> x.row(1, 0, 10));
        no("a plain GUARD", SOME, STATE, x -> x.row(0, 0, 0));
        for (int p = 1; p < 6; p++) {
            int other = p;
            no("another KIND, guard " + p, ALL, STATE, x -> x.row(other, 3, 9));
        }
        no("NONE (guard) ahead of BAD", SOME, NONE, x -> x.row(3, 0, 10));
        no("NONE (part) ahead of BAD", SOME, NONE, x -> x.row(1, 4, 10));
        no("NONE (part) ahead of STATE", SOME, NONE, x -> x.row(0, 4, 0));
        no("NONE (part below 0) ahead of STATE", SOME, NONE, x -> x.row(0, -1, 0));
        no("BAD ahead of STATE", SOME, BAD, x -> x.row(0, 0, 10));
        no("BAD (below 0) ahead of STATE", SOME, BAD, x -> x.row(0, 3, -1));
    }

    private static void feeds() {
        Due.about("promise 11, feed: BAD; FULL");
        no("sign -1", SOME, BAD, x -> x.feed(-1));
        no("sign 128", SOME, BAD, x -> x.feed(128));
        no("sign MIN", SOME, BAD, x -> x.feed(MIN));
        no("sign 'k' + 256", SOME, BAD, x -> x.feed('k' + 256));
        no("the 101st", TEXT, FULL, x -> x.feed('1'));
        no("the 101st, sign 0", TEXT, FULL, x -> x.feed(0));
        no("BAD ahead of FULL, 128", TEXT, BAD, x -> x.feed(128));
        no("BAD ahead of FULL, -1", TEXT, BAD, x -> x.feed(-1));
    }

    private static void borders() {
        Due.about("promise 12, border: FULL: there are 6 (THE TEXT stays); -10 less the FAULT (the one that held holds)");
        no("the seventh", ALL, FULL, x -> x.border());
        no("FULL ahead of the FAULT", () -> {
            BorderQuestions x = Worlds.full();
            x.feed('?');
            return x;
        }, FULL, x -> x.border());
        no("FULL ahead of the FAULT of an empty TEXT", Worlds::sixBorders, FULL, x -> x.border());
        Supplier<BorderQuestions> textless = () -> {
            BorderQuestions x = Worlds.some();
            x.border();
            return x;
        };
        no("a FAULT of an empty TEXT", textless, -10, x -> x.border());
        Look.alike("a FAULT does no more than empty THE TEXT", textless, x -> {
            Due.is("the FAULT", Worlds.border(x, "rest 9;dull 99 p<9;keen 99 p<9&k"), -42);
        }, x -> { });
    }

    private static void tolds() {
        Due.about("promise 13, told: NONE");
        int[] whats = {-1, 7, 8, 9, 14, 15, 16, MIN, MAX, MIN + 10};
        for (int what : whats) {
            no("what " + what, SOME, NONE, x -> x.told(what));
        }
        no("what 16, all six there", ALL, NONE, x -> x.told(16));
        no("what 9, all six there", ALL, NONE, x -> x.told(9));
        no("what 10, none there", EMPTY, NONE, x -> x.told(10));
    }

    private static void passes() {
        Due.about("promise 14, pass: BAD; STATE: it would be above 9999");
        no("n -1", SOME, BAD, x -> x.pass(-1));
        no("n 61", SOME, BAD, x -> x.pass(61));
        no("n MAX", SOME, BAD, x -> x.pass(MAX));
        no("n MIN", LATE, BAD, x -> x.pass(MIN));
        no("10 from 9990 on", LATE, STATE, x -> x.pass(10));
        no("60 from 9990 on", LATE, STATE, x -> x.pass(60));
        no("BAD ahead of STATE", LATE, BAD, x -> x.pass(61));
        Due.is("9 from 9990 on", Worlds.late().pass(9), 9999);
    }

    private static void ons() {
        Due.about("promise 15, on: NONE; BAD: n");
        int[] whats = {-1, 1, 9, 13, 16, 19, 23, 26, 29, 34, 36, 40, MIN, MAX, MIN + 10, MIN + 20, MIN + 30};
        for (int what : whats) {
            no("what " + what, SOME, NONE, x -> x.on(1, what));
            no("NONE ahead of BAD, what " + what, SOME, NONE, x -> x.on(61, what));
        }
        int[] beyond = {9, 16, 19, 26, 29, 36};
        for (int what : beyond) {
            no("what " + what + ", all six there", ALL, NONE, x -> x.on(1, what));
        }
        int[] taken = {0, 10, 12, 20, 22, 30, 33};
        for (int what : taken) {
            no("n -1, what " + what, SOME, BAD, x -> x.on(-1, what));
            no("n 61, what " + what, SOME, BAD, x -> x.on(61, what));
        }
        no("n MAX", LATE, BAD, x -> x.on(MAX, 0));
        no("n MIN", LATE, BAD, x -> x.on(MIN, 0));
    }

    private static void hears() {
        Due.about("promise 16, hear: NONE; FULL: 5");
        no("guard -2", SOME, NONE, x -> x.hear(-2, 0, true));
        no("guard 3 of three", SOME, NONE, x -> x.hear(3, 0, true));
        no("question -1", SOME, NONE, x -> x.hear(0, -1, true));
        no("question 4 of four", SOME, NONE, x -> x.hear(0, 4, true));
        no("the sixth", ALL, FULL, x -> x.hear(0, 0, false));
        no("NONE (guard) ahead of FULL", ALL, NONE, x -> x.hear(6, 0, true));
        no("NONE (question) ahead of FULL", ALL, NONE, x -> x.hear(0, 6, true));
    }

    private static void cans() {
        Due.about("promise 17, can: NONE");
        no("what -1", SOME, NONE, x -> x.can(0, -1));
        no("what 2", SOME, NONE, x -> x.can(0, 2));
        no("guard -1", SOME, NONE, x -> x.can(-1, 0));
        no("guard 3 of three", SOME, NONE, x -> x.can(3, 1));
        no("guard 6", ALL, NONE, x -> x.can(6, 0));
    }

    private static void oddsAndMeans() {
        Due.about("promise 18, odds: NO: guard, question, part");
        no("guard -1", SOME, NO, x -> x.odds(-1, 0, 0));
        no("guard 3 of three", SOME, NO, x -> x.odds(3, 0, 1));
        no("question -1", SOME, NO, x -> x.odds(0, -1, 0));
        no("question 4 of four", SOME, NO, x -> x.odds(0, 4, 1));
        no("part -1", SOME, NO, x -> x.odds(0, 0, -1));
        no("part 2", SOME, NO, x -> x.odds(0, 0, 2));
        no("guard 6", ALL, NO, x -> x.odds(6, 0, 0));
        no("question 6", ALL, NO, x -> x.odds(0, 6, 0));
        Due.about("promise 19, mean: NO");
        no("part -1", SOME, NO, x -> x.mean(-1));
        no("part 2", SOME, NO, x -> x.mean(2));
        no("no GUARDS, part 0", EMPTY, NO, x -> x.mean(0));
        no("no GUARDS, part 1", EMPTY, NO, x -> x.mean(1));
    }

    private static void plans() {
        Due.about("promise 20, plan: NONE: what (0 .. 3), question, guard (by 1), guard (by 2), question (by 3); FULL: 10");
        no("what -2", SOME, NONE, x -> x.plan(-2, 0));
        no("what 4", SOME, NONE, x -> x.plan(4, 0));
        no("what MIN", SOME, NONE, x -> x.plan(MIN, 0));
        no("question 4 of four by 1", SOME, NONE, x -> x.plan(1, 40));
        no("guard 3 of three by 1", SOME, NONE, x -> x.plan(1, 3));
        no("guard 9 by 1", SOME, NONE, x -> x.plan(1, 9));
        no("-1 by 1", SOME, NONE, x -> x.plan(1, -1));
        no("-9 by 1: question 0 by the cut half alone", SOME, NONE, x -> x.plan(1, -9));
        no("-10 by 1", SOME, NONE, x -> x.plan(1, -10));
        no("60 by 1, all six there", ALL, NONE, x -> x.plan(1, 60));
        no("56 by 1, all six there", ALL, NONE, x -> x.plan(1, 56));
        no("guard 3 of three by 2", SOME, NONE, x -> x.plan(2, 3));
        no("guard -1 by 2", SOME, NONE, x -> x.plan(2, -1));
        no("question 4 of four by 3", SOME, NONE, x -> x.plan(3, 4));
        no("question -1 by 3", SOME, NONE, x -> x.plan(3, -1));
        no("the eleventh, an HOUR", ALL, FULL, x -> x.plan(0, 0));
        no("the eleventh, ASKED", ALL, FULL, x -> x.plan(1, 55));
        no("the eleventh, TIRED", ALL, FULL, x -> x.plan(2, 5));
        no("the eleventh, WAITING", ALL, FULL, x -> x.plan(3, 5));
        no("NONE (what) ahead of FULL", ALL, NONE, x -> x.plan(4, 0));
        no("NONE (question by 1) ahead of FULL", ALL, NONE, x -> x.plan(1, 60));
        no("NONE (guard by 2) ahead of FULL", ALL, NONE, x -> x.plan(2, 6));
        no("NONE (question by 3) ahead of FULL", ALL, NONE, x -> x.plan(3, 6));
    }

    private static void endings() {
        Due.about("promise 21, ends: NONE");
        no("what -1", SOME, NONE, x -> x.ends(-1));
        no("what 2", SOME, NONE, x -> x.ends(2));
        no("what 2 in a new one", EMPTY, NONE, x -> x.ends(2));
    }

    private static void books() {
        Due.about("promise 22, book: NONE; BAD: goods; FULL: 8");
        no("question -2", SOME, NONE, x -> x.book(-2, 0));
        no("question 4 of four", SOME, NONE, x -> x.book(4, 0));
        no("goods -1", SOME, BAD, x -> x.book(0, -1));
        no("goods 100", SOME, BAD, x -> x.book(0, 100));
        no("the ninth", ALL, FULL, x -> x.book(0, 0));
        no("NONE ahead of BAD", SOME, NONE, x -> x.book(4, 100));
        no("NONE ahead of FULL", ALL, NONE, x -> x.book(6, 0));
        no("BAD ahead of FULL", ALL, BAD, x -> x.book(0, 100));
        no("BAD (below 0) ahead of FULL", ALL, BAD, x -> x.book(5, -1));
    }

    private static void judges() {
        Due.about("promise 24, judge: NONE: tape; CAST: it is no row of shorts");
        no("tape -1", SOME, NONE, x -> x.judge(-1, 0));
        no("tape 6", SOME, NONE, x -> x.judge(6, 0));
        no("tape 6, no GUARDS", EMPTY, NONE, x -> x.judge(6, 0));
        no("bytes", SOME, CAST, x -> x.judge(0, 0));
        no("longs", SOME, CAST, x -> x.judge(2, 0));
        no("booleans", SOME, CAST, x -> x.judge(3, 0));
        no("no ints", SOME, CAST, x -> x.judge(4, 0));
        no("CAST wherever the place is, below 0", SOME, CAST, x -> x.judge(0, -1));
        no("CAST wherever the place is, beyond", SOME, CAST, x -> x.judge(0, 3));
        no("NONE wherever the place is", SOME, NONE, x -> x.judge(6, -1));
    }

    private static void undos() {
        Due.about("promise 26, undo: STATE: there is none");
        no("a new one", EMPTY, STATE, x -> x.undo());
        no("never taken", TEXT, STATE, x -> x.undo());
    }

    private static void acts() {
        Due.about("promise 27, act: 0, and no TRACE then: no such GUARD, act");
        int[][] refused = {{-1, 0}, {3, 0}, {MIN, 0}, {MAX, 2}, {0, -1}, {0, 3}, {1, -1}, {2, -1}, {2, 3}, {1, 3}, {2, MIN}, {2, MAX}, {3, 3}};
        for (int[] call : refused) {
            String name = "act " + call[1] + " of " + call[0];
            Due.is(name, Worlds.some().act(call[0], call[1], 3), 0);
            BorderQuestions x = Worlds.some();
            Due.is("bodies ran ahead of it", x.count(7), 5);
            x.act(call[0], call[1], 3);
            Due.is(name + ": how many ran", x.count(7), 0);
            Due.is(name + ": none kept", x.trace(0), NONE);
            Look.alike(name + " changes nothing but the TRACE", SOME, one -> one.act(call[0], call[1], 3), one -> one.act(9, 9, 0));
        }
        no("act 0 of 6", () -> {
            BorderQuestions x = Worlds.full();
            x.act(6, 0, 0);
            return x;
        }, 0, x -> x.act(6, 2, 1));
    }

    private static void traces() {
        Due.about("promise 28, trace: NONE");
        no("-1", SOME, NONE, x -> x.trace(-1));
        no("behind the last", SOME, NONE, x -> x.trace(5));
        no("behind the last of the most", ALL, NONE, x -> x.trace(12));
        no("20", ALL, NONE, x -> x.trace(20));
        no("MIN", ALL, NONE, x -> x.trace(MIN));
        no("MAX", ALL, NONE, x -> x.trace(MAX));
        no("none ran", EMPTY, NONE, x -> x.trace(0));
    }

    private static void takens() {
        Due.about("promise 29, taken: BAD: k; NOTHING: no such GUARD; CAST");
        no("k -1", SOME, BAD, x -> x.taken(0, -1));
        no("k 7", SOME, BAD, x -> x.taken(0, 7));
        no("guard -1", SOME, NOTHING, x -> x.taken(-1, 0));
        no("guard 3 of three", SOME, NOTHING, x -> x.taken(3, 0));
        no("guard 6", ALL, NOTHING, x -> x.taken(6, 6));
        no("a plain one is no DEEP one", SOME, CAST, x -> x.taken(0, 1));
        no("a TOLD one is no SHEPHERD", SOME, CAST, x -> x.taken(1, 4));
        no("BAD ahead of NOTHING", SOME, BAD, x -> x.taken(3, 7));
        no("BAD ahead of NOTHING, below 0", SOME, BAD, x -> x.taken(-1, -1));
        no("NOTHING ahead of CAST: there is none to be cast", EMPTY, NOTHING, x -> x.taken(0, 6));
    }

    private static void counts() {
        Due.about("promise 30, count: BAD");
        no("what -1", SOME, BAD, x -> x.count(-1));
        no("what 8", SOME, BAD, x -> x.count(8));
        no("what MIN", ALL, BAD, x -> x.count(MIN));
    }

    private static void tapes() {
        Due.about("promise 31, tape: NONE: tape; BAD: sort, n above 60; SIZE");
        no("tape -1", SOME, NONE, x -> x.tape(-1, 0, 1));
        no("tape 6", SOME, NONE, x -> x.tape(6, 0, 1));
        no("sort -2", SOME, BAD, x -> x.tape(0, -2, 1));
        no("sort 5", SOME, BAD, x -> x.tape(0, 5, 1));
        no("n 61", SOME, BAD, x -> x.tape(0, 1, 61));
        no("n MAX", SOME, BAD, x -> x.tape(0, 1, MAX));
        no("n -1", SOME, SIZE, x -> x.tape(0, 1, -1));
        no("n MIN", SOME, SIZE, x -> x.tape(0, 4, MIN));
        no("NONE ahead of BAD (sort)", SOME, NONE, x -> x.tape(6, 5, 1));
        no("NONE ahead of BAD (n)", SOME, NONE, x -> x.tape(-1, 0, 61));
        no("NONE ahead of SIZE", SOME, NONE, x -> x.tape(6, 0, -1));
        no("NONE, though sort is -1", SOME, NONE, x -> x.tape(6, -1, 0));
        no("BAD (sort) ahead of SIZE", SOME, BAD, x -> x.tape(0, 5, -1));
        no("BAD (sort below -1) ahead of SIZE", SOME, BAD, x -> x.tape(0, -2, -1));
        no("a tape that holds nothing goes on so", SOME, SIZE, x -> x.tape(5, 0, -1));
    }

    private static void items() {
        Due.about("promise 32, item: NONE; NOTHING; PLACE");
        no("tape -1", SOME, NONE, x -> x.item(-1, 0, 1));
        no("tape 6", SOME, NONE, x -> x.item(6, 0, 1));
        no("holds nothing", SOME, NOTHING, x -> x.item(5, 0, 1));
        no("place -1", SOME, PLACE, x -> x.item(0, -1, 1));
        no("place 3 of three", SOME, PLACE, x -> x.item(0, 3, 1));
        no("place 60 of sixty", SOME, PLACE, x -> x.item(1, 60, 1));
        no("place 0 of none", SOME, PLACE, x -> x.item(4, 0, 1));
        no("place MIN", SOME, PLACE, x -> x.item(2, MIN, 1));
        no("place MAX", SOME, PLACE, x -> x.item(2, MAX, 1));
        no("NONE ahead of PLACE", SOME, NONE, x -> x.item(6, -1, 1));
        no("NOTHING ahead of PLACE", SOME, NOTHING, x -> x.item(5, -1, 1));
    }

    private static void reads() {
        Due.about("promise 33, read: NO: no such TAPE, nothing there, no such place");
        no("tape -1", SOME, NO, x -> x.read(-1, 0));
        no("tape 6", SOME, NO, x -> x.read(6, 0));
        no("nothing there", SOME, NO, x -> x.read(5, 0));
        no("place -1", SOME, NO, x -> x.read(0, -1));
        no("place 3 of three", SOME, NO, x -> x.read(0, 3));
        no("place 60 of sixty", SOME, NO, x -> x.read(1, 60));
        no("place 0 of none", SOME, NO, x -> x.read(4, 0));
        no("place MAX", SOME, NO, x -> x.read(1, MAX));
        no("place MIN", SOME, NO, x -> x.read(1, MIN));
    }

    private static void shifts() {
        Due.about("promise 34, shift: NONE: tapes; NOTHING; CAST: of unlike sorts; PLACE");
        no("tape -1", SOME, NONE, x -> x.shift(-1, 0, 0, 0, 1));
        no("tape 6", SOME, NONE, x -> x.shift(6, 0, 0, 0, 1));
        no("other -1", SOME, NONE, x -> x.shift(0, 0, -1, 0, 1));
        no("other 6", SOME, NONE, x -> x.shift(0, 0, 6, 0, 1));
        no("nothing here", SOME, NOTHING, x -> x.shift(5, 0, 0, 0, 0));
        no("nothing there", SOME, NOTHING, x -> x.shift(0, 0, 5, 0, 0));
        no("nothing at both", SOME, NOTHING, x -> x.shift(5, 0, 5, 0, 0));
        no("unlike sorts", SOME, CAST, x -> x.shift(0, 0, 1, 0, 1));
        no("unlike sorts, none of them", SOME, CAST, x -> x.shift(2, 0, 3, 0, 0));
        no("i -1", SOME, PLACE, x -> x.shift(1, -1, 1, 5, 1));
        no("j -1", SOME, PLACE, x -> x.shift(1, 0, 1, -1, 1));
        no("n -1", SOME, PLACE, x -> x.shift(1, 0, 1, 5, -1));
        no("i and n one beyond the end", SOME, PLACE, x -> x.shift(0, 1, 0, 0, 3));
        no("j and n one beyond the end", SOME, PLACE, x -> x.shift(0, 0, 0, 1, 3));
        no("more than there are", SOME, PLACE, x -> x.shift(0, 0, 0, 0, 4));
        no("i beyond the end, none of them", SOME, PLACE, x -> x.shift(0, 4, 0, 0, 0));
        no("j beyond the end, none of them", SOME, PLACE, x -> x.shift(0, 0, 0, 4, 0));
        no("i and n wrap", SOME, PLACE, x -> x.shift(1, 2, 1, 0, MAX));
        no("j and n wrap", SOME, PLACE, x -> x.shift(1, 0, 1, MAX, 2));
        no("i below 0, as far as n is long", SOME, PLACE, x -> x.shift(1, -3, 1, 0, 3));
        no("one of an empty row", SOME, PLACE, x -> x.shift(4, 0, 4, 0, 1));
        no("NONE (tape) ahead of NOTHING", SOME, NONE, x -> x.shift(6, 0, 5, 0, 1));
        no("NONE (other) ahead of NOTHING", SOME, NONE, x -> x.shift(5, 0, 6, 0, 1));
        no("NONE ahead of PLACE", SOME, NONE, x -> x.shift(0, -1, 6, 0, 1));
        no("NOTHING ahead of PLACE, here", SOME, NOTHING, x -> x.shift(5, -1, 0, 0, 1));
        no("NOTHING ahead of PLACE, there", SOME, NOTHING, x -> x.shift(0, 0, 5, 0, -1));
        no("CAST ahead of PLACE (n)", SOME, CAST, x -> x.shift(0, 0, 1, 0, -1));
        no("CAST ahead of PLACE (i)", SOME, CAST, x -> x.shift(0, 9, 1, 0, 1));
        no("CAST ahead of PLACE (j)", SOME, CAST, x -> x.shift(0, 0, 1, -1, 1));
    }
}
