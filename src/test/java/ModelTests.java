import java.util.Random;

/** Random runs of calls, the same each time, on the program and on the plain model. */
public final class ModelTests {
    private static final int RUNS = 700, TEXTS = 6000, CALLS = 512;
    private static final int[] ODD = {Integer.MIN_VALUE, Integer.MIN_VALUE + 9, Integer.MIN_VALUE + 25, Integer.MAX_VALUE,
        Integer.MAX_VALUE - 1, -1, -2, -10, 3, 4, 5, 6, 7, 8, 10, 12, 60, 61, 99, 100, 127, 128, 4095, 4096, 65536};

    private final Random random;
    private final BorderQuestions real = new BorderQuestions();
    private final PlainModel model = new PlainModel();
    private final int seldom;
    private int calls;

    private ModelTests(long seed) {
        random = new Random(seed);
        // Every tenth run is mostly of odd numbers.
        seldom = seed % 10 == 9 ? 2 : 25;
    }

    public static void main(String[] args) {
        for (int run = 0; run < RUNS && !Due.anyWrong(); run++) {
            Due.about("run " + run);
            new ModelTests(run).play();
        }
        for (int run = 0; run < TEXTS && !Due.anyWrong(); run++) {
            Due.about("text " + run);
            new ModelTests(run).readOne();
        }
        Due.end();
    }

    private void play() {
        boolean early = random.nextInt(4) != 0;
        if (early) {
            people();
        }
        // One step is 210 calls at most; what is answered behind the 512th is free.
        while (calls < CALLS - 210 && !Due.anyWrong()) {
            step();
        }
    }

    private void readOne() {
        people();
        text();
        for (int p = 0; p < model.w.men.size(); p++) {
            tire(p, n(100));
            for (int q = 0; q < model.w.sacks.size(); q++) {
                of(p, 10 + q);
            }
        }
        told(1);
    }

    private void people() {
        for (int i = random.nextInt(7); i > 0; i--) {
            guard(random.nextInt(7), random.nextInt(10), random.nextInt(4096));
        }
        for (int i = random.nextInt(7); i > 0; i--) {
            question(random.nextInt(4096) & random.nextInt(4096), random.nextInt(5) * random.nextInt(25));
        }
    }

    private void step() {
        int one = random.nextInt(40);
        if (one == 0) {
            text();
        } else if (one == 1) {
            lookAtAll();
        } else if (one < 6) {
            handle();
        } else {
            any(random.nextInt(34));
        }
    }

    private int n(int most) {
        return random.nextInt(seldom) == 0 ? ODD[random.nextInt(ODD.length)] : random.nextInt(most);
    }

    // ---- texts, mostly whole ones

    private String clause() {
        switch (random.nextInt(5)) {
            case 0: return "rest " + random.nextInt(20);
            case 1: case 2: return "keen " + random.nextInt(8) + " " + either(random.nextInt(5));
            default: return "dull " + random.nextInt(8) + " " + either(random.nextInt(5));
        }
    }

    private String either(int deep) {
        String both = both(deep);
        return random.nextInt(3) == 0 ? both + "|" + either(deep - 1) : both;
    }

    private String both(int deep) {
        String thing = thing(deep);
        return random.nextInt(3) == 0 ? thing + "&" + both(deep - 1) : thing;
    }

    private String thing(int deep) {
        if (deep > 0 && random.nextInt(2) == 0) {
            return random.nextBoolean() ? "!" + thing(deep - 1) : "(" + either(deep - 1) + ")";
        }
        return "" + "pkvtnh".charAt(random.nextInt(6)) + "<=>".charAt(random.nextInt(3)) + random.nextInt(random.nextInt(4) == 0 ? 100 : 8);
    }

    private void text() {
        StringBuilder made = new StringBuilder(clause());
        for (int i = random.nextInt(4); i > 0; i--) {
            made.append(';').append(clause());
        }
        int spoil = random.nextInt(6);
        int at = random.nextInt(made.length());
        if (spoil == 0) {
            made.setLength(at);
        } else if (spoil == 1) {
            made.setCharAt(at, "pkvtnh<=>!()&|; 0123456789kdr".charAt(random.nextInt(29)));
        }
        for (int i = 0; i < made.length() && i < 101; i++) {
            feed(made.charAt(i));
        }
        border();
    }

    // ---- calls that go together

    private void handle() {
        int p = random.nextInt(6);
        int q = random.nextInt(6);
        switch (random.nextInt(5)) {
            case 0:
                hear(p, q, random.nextBoolean());
                of(p, 5);
                of(p, 6);
                can(p, 0);
                can(p, 1);
                break;
            case 1:
                hear(-1, 0, true);
                hear(p, q, model.man(p) && model.sackIs(q) && model.canAnswer(model.w, p, model.w.sacks.get(q).matters));
                of(p, 5);
                can(p, 0);
                break;
            case 2:
                plan(random.nextInt(4), random.nextInt(60));
                plan(random.nextInt(4), random.nextInt(6));
                ends(0);
                ends(1);
                break;
            case 3:
                if (model.sackIs(q)) {
                    book(q, model.w.sacks.get(q).goods + (random.nextInt(6) == 0 ? 1 : 0));
                }
                looked();
                break;
            default:
                judged();
                break;
        }
    }

    private void judged() {
        int t = random.nextInt(6);
        int at = random.nextInt(4);
        tape(t, 1, random.nextInt(10));
        for (int p = 0; p < model.w.men.size(); p++) {
            item(t, at + p, model.w.men.get(p).knows + (random.nextInt(12) == 0 ? 65536 : 0) + (random.nextInt(12) == 0 ? 1 : 0));
        }
        judge(t, at);
        judge(t, -1);
        judge(t, Integer.MAX_VALUE);
        judge(t, 60);
    }

    private void lookAtAll() {
        for (int what = 0; what < 16; what++) {
            told(what);
        }
        for (int what = 0; what < 8; what++) {
            count(what);
        }
        for (int p = 0; p < model.w.men.size(); p++) {
            for (int what = 0; what < 26; what += 1 + random.nextInt(3)) {
                of(p, what);
            }
        }
        for (int q = 0; q < model.w.sacks.size(); q++) {
            for (int what = 0; what < 4; what++) {
                sack(q, what);
            }
        }
    }

    private void any(int call) {
        switch (call) {
            case 0: guard(n(7), n(10), n(4096)); break;
            case 1: of(n(6), n(7)); break;
            case 2: of(n(6), 10 + n(16)); break;
            case 3: question(n(4096) & random.nextInt(4096), n(100)); break;
            case 4: sack(n(6), n(4)); break;
            case 5: know(n(6), n(4096)); break;
            case 6: tire(n(6), n(100)); break;
            case 7: bring(n(6), n(6)); break;
            case 8: ask(n(6), n(6)); break;
            case 9: row(n(6), n(4), n(10)); break;
            case 10: feed(n(128)); break;
            case 11: told(n(16)); break;
            case 12: pass(n(random.nextInt(3) == 0 ? 61 : 4)); break;
            case 13: on(n(61), n(40)); break;
            case 14: on(n(6), random.nextInt(4) == 0 ? 0 : 10 + n(26)); break;
            case 15: hear(n(6), n(6), random.nextBoolean()); break;
            case 16: can(n(6), n(2)); break;
            case 17: odds(n(6), n(6), n(2)); break;
            case 18: mean(n(2)); break;
            case 19: plan(n(4), n(60)); break;
            case 20: plan(n(4), n(6)); break;
            case 21: ends(n(2)); break;
            case 22: book(n(6), n(100)); break;
            case 23: looked(); break;
            case 24: judge(n(6), n(5)); break;
            case 25: if (random.nextInt(3) == 0) { image(); } break;
            case 26: if (random.nextInt(3) == 0) { undo(); } break;
            case 27: act(n(6), n(3), random.nextInt()); trace(n(12)); count(7); break;
            case 28: taken(n(6), n(7)); break;
            case 29: count(n(8)); break;
            case 30: tape(n(6), n(6) - (random.nextInt(5) == 0 ? 1 : 0), n(20)); break;
            case 31: item(n(6), n(20), random.nextLong() >> random.nextInt(64)); break;
            case 32: read(n(6), n(20)); break;
            default: shift(n(6), n(10), n(6), n(10), n(10)); break;
        }
    }

    private void due(String call, long got, long want) {
        calls++;
        Due.is(call, got, want);
    }

    private void guard(int kind, int v, int knows) {
        due("guard(" + kind + ", " + v + ", " + knows + ")", real.guard(kind, v, knows), model.guard(kind, v, knows));
    }

    private void of(int p, int what) {
        due("of(" + p + ", " + what + ")", real.of(p, what), model.of(p, what));
    }

    private void question(int matters, int goods) {
        due("question(" + matters + ", " + goods + ")", real.question(matters, goods), model.question(matters, goods));
    }

    private void sack(int q, int what) {
        due("sack(" + q + ", " + what + ")", real.sack(q, what), model.sack(q, what));
    }

    private void know(int p, int matters) {
        due("know(" + p + ", " + matters + ")", real.know(p, matters), model.know(p, matters));
    }

    private void tire(int p, int n) {
        due("tire(" + p + ", " + n + ")", real.tire(p, n), model.tire(p, n));
    }

    private void bring(int q, int p) {
        due("bring(" + q + ", " + p + ")", real.bring(q, p), model.bring(q, p));
    }

    private void ask(int q, int p) {
        due("ask(" + q + ", " + p + ")", real.ask(q, p), model.ask(q, p));
    }

    private void row(int p, int part, int n) {
        due("row(" + p + ", " + part + ", " + n + ")", real.row(p, part, n), model.row(p, part, n));
    }

    private void feed(int sign) {
        due("feed(" + sign + ")", real.feed(sign), model.feed(sign));
    }

    private void border() {
        String text = model.text.toString();
        due("border() of '" + text + "'", real.border(), model.border());
    }

    private void told(int what) {
        due("told(" + what + ")", real.told(what), model.told(what));
    }

    private void pass(int n) {
        due("pass(" + n + ")", real.pass(n), model.pass(n));
    }

    private void on(int n, int what) {
        due("on(" + n + ", " + what + ")", real.on(n, what), model.on(n, what));
    }

    private void hear(int p, int q, boolean can) {
        due("hear(" + p + ", " + q + ", " + can + ")", real.hear(p, q, can), model.hear(p, q, can));
    }

    private void can(int p, int what) {
        due("can(" + p + ", " + what + ")", real.can(p, what), model.can(p, what));
    }

    private void odds(int p, int q, int part) {
        due("odds(" + p + ", " + q + ", " + part + ")", real.odds(p, q, part), model.odds(p, q, part));
    }

    private void mean(int part) {
        due("mean(" + part + ")", real.mean(part), model.mean(part));
    }

    private void plan(int what, int n) {
        due("plan(" + what + ", " + n + ")", real.plan(what, n), model.plan(what, n));
    }

    private void ends(int what) {
        due("ends(" + what + ")", real.ends(what), model.ends(what));
    }

    private void book(int q, int goods) {
        due("book(" + q + ", " + goods + ")", real.book(q, goods), model.book(q, goods));
    }

    private void looked() {
        due("looked()", real.looked(), model.looked());
    }

    private void judge(int t, int i) {
        due("judge(" + t + ", " + i + ")", real.judge(t, i), model.judge(t, i));
    }

    private void image() {
        due("image()", real.image(), model.image());
    }

    private void undo() {
        due("undo()", real.undo(), model.undo());
    }

    private void act(int p, int act, int x) {
        due("act(" + p + ", " + act + ", " + x + ")", real.act(p, act, x), model.act(p, act, x));
    }

    private void trace(int i) {
        due("trace(" + i + ")", real.trace(i), model.trace(i));
    }

    private void taken(int p, int k) {
        due("taken(" + p + ", " + k + ")", real.taken(p, k), model.taken(p, k));
    }

    private void count(int what) {
        due("count(" + what + ")", real.count(what), model.count(what));
    }

    private void tape(int t, int sort, int n) {
        due("tape(" + t + ", " + sort + ", " + n + ")", real.tape(t, sort, n), model.tape(t, sort, n));
    }

    private void item(int t, int i, long v) {
        due("item(" + t + ", " + i + ", " + v + ")", real.item(t, i, v), model.item(t, i, v));
    }

    private void read(int t, int i) {
        due("read(" + t + ", " + i + ")", real.read(t, i), model.read(t, i));
    }

    private void shift(int t, int i, int other, int j, int n) {
        due("shift(" + t + ", " + i + ", " + other + ", " + j + ", " + n + ")",
            real.shift(t, i, other, j, n), model.shift(t, i, other, j, n));
    }
}
