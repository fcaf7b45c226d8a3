import java.util.function.Consumer;
import java.util.function.Supplier;

/** What is asked changes nothing; and what is done changes what the call's words say, and nothing else. */
public final class AskedTests {
    private static final Supplier<BorderQuestions> EMPTY = Worlds::empty, SOME = Worlds::some, ALL = Worlds::full,
        TEXT = Worlds::fullText, LATE = Worlds::late;

    private AskedTests() {
    }

    public static void main(String[] args) {
        Due.about("what is asked changes nothing");
        everywhere("a new one", EMPTY);
        everywhere("some", SOME);
        everywhere("full", ALL);
        everywhere("full of text", TEXT);
        everywhere("late", LATE);
        readings();
        Due.about("what is done and done back changes nothing");
        doneBack();
        Due.about("what is done changes nothing else");
        doneInAnyOrder();
        newOnes();
        Due.end();
    }

    private static void everywhere(String world, Supplier<BorderQuestions> made) {
        for (int p = -1; p < 7; p += p == 2 ? 3 : 1) {
            int guard = p;
            Look.asked(world + ", of(" + p + ", ..)", made, x -> sum(x, 27, (y, what) -> y.of(guard, what)));
            Look.asked(world + ", can(" + p + ", ..)", made, x -> x.can(guard, 0) + x.can(guard, 1));
            Look.asked(world + ", odds(" + p + ", ..)", made, x -> sum(x, 14, (y, i) -> y.odds(guard, i / 2, i % 2)));
            Look.asked(world + ", taken(" + p + ", ..)", made, x -> sum(x, 8, (y, k) -> y.taken(guard, k)));
        }
        Look.asked(world + ", sack", made, x -> sum(x, 28, (y, i) -> y.sack(i / 4, i % 4)));
        Look.asked(world + ", told", made, x -> sum(x, 17, (y, what) -> y.told(what)));
        int[] hours = {0, 1, 2, 10, 59, 60};
        for (int n : hours) {
            Look.asked(world + ", on(" + n + ", ..)", made, x -> sum(x, 37, (y, what) -> y.on(n, what)));
        }
        Look.asked(world + ", mean", made, x -> x.mean(0) + x.mean(1));
        Look.asked(world + ", ends", made, x -> x.ends(0) + x.ends(1));
        Look.asked(world + ", looked", made, x -> x.looked());
        Look.asked(world + ", judge", made, x -> sum(x, 36, (y, i) -> y.judge(i / 6, i % 6 - 1)));
        Look.asked(world + ", trace", made, x -> sum(x, 22, (y, i) -> y.trace(i - 1)));
        Look.asked(world + ", count", made, x -> sum(x, 9, (y, what) -> y.count(what)));
        Look.asked(world + ", read", made, x -> sum(x, 36, (y, i) -> y.read(i / 6, i % 6)));
        Look.asked(world + ", none go", made, x -> x.pass(0));
    }

    private interface Asked {
        long of(BorderQuestions x, int i);
    }

    private static long sum(BorderQuestions x, int most, Asked asked) {
        long sum = 0;
        for (int i = 0; i < most; i++) {
            sum += asked.of(x, i);
        }
        return sum;
    }

    /** Asked twice, and in another order, all answers are the same. */
    private static void readings() {
        BorderQuestions x = Worlds.full();
        for (int round = 0; round < 2; round++) {
            Due.is("on(60, 0)", x.on(60, 0), Worlds.full().on(60, 0));
            Due.is("ends(0)", x.ends(0), Worlds.full().ends(0));
            Due.is("on(1, 20)", x.on(1, 20), Worlds.full().on(1, 20));
            Due.is("of(0, 4)", x.of(0, 4), Worlds.full().of(0, 4));
            Due.is("can(2, 1)", x.can(2, 1), Worlds.full().can(2, 1));
            Due.is("of(3, 5)", x.of(3, 5), Worlds.full().of(3, 5));
            Due.is("told(6)", x.told(6), Worlds.full().told(6));
            Due.is("told(15)", x.told(15), Worlds.full().told(15));
            Due.is("told(5)", x.told(5), Worlds.full().told(5));
            Due.is("ends(1)", x.ends(1), Worlds.full().ends(1));
        }
    }

    private static void back(String name, Supplier<BorderQuestions> world, Consumer<BorderQuestions> done) {
        Look.alike(name, world, done, x -> { });
    }

    private static void doneBack() {
        for (int p = 0; p < 3; p++) {
            int guard = p;
            back("know " + p, SOME, x -> x.know(guard, x.know(guard, 4095)));
            back("tire " + p, SOME, x -> x.tire(guard, x.tire(guard, 99)));
        }
        back("row", SOME, x -> {
            for (int part = 0; part < 4; part++) {
                x.row(1, part, x.row(1, part, 9));
            }
        });
        back("bring", SOME, x -> {
            Due.is("was brought to", x.bring(0, -1), 1);
            Due.is("was brought to none", x.bring(0, 1), -5);
            Due.is("was brought to none ever", x.bring(3, 2), -5);
            Due.is("was brought to 2", x.bring(3, -1), 2);
        });
        back("an item", SOME, x -> {
            x.item(1, 59, 3);
            x.item(1, 59, -2);
        });
        back("no items shifted", SOME, x -> {
            Due.is("at the ends", x.shift(1, 60, 1, 60, 0), 0);
            Due.is("at an empty row's ends", x.shift(4, 0, 4, 0, 0), 0);
            Due.is("all of it onto itself", x.shift(1, 0, 1, 0, 60), 60);
        });
        back("a tape of the same", SOME, x -> {
            x.tape(5, 0, 60);
            x.tape(5, -1, 61);
            x.tape(4, 2, 0);
        });
        back("an image and an undo, the image being the same", () -> {
            BorderQuestions x = Worlds.full();
            x.image();
            return x;
        }, x -> {
            x.image();
            x.undo();
            x.undo();
        });
        back("what came after the image goes by an undo", () -> {
            BorderQuestions x = Worlds.some();
            x.image();
            return x;
        }, AskedTests::manyThingsOfTheImage);
    }

    /** All that an IMAGE holds, changed; then it is as it was. */
    private static void manyThingsOfTheImage(BorderQuestions x) {
        x.know(0, 4095);
        x.tire(1, 99);
        x.row(1, 3, 9);
        x.guard(5, 9, 4095);
        x.question(4095, 99);
        x.bring(0, 3);
        x.ask(1, 2);
        x.hear(0, 0, false);
        x.hear(3, 4, false);
        x.plan(2, 1);
        x.plan(1, 0);
        x.book(1, 1);
        x.pass(13);
        Due.is("undo", x.undo(), 3);
    }

    private static void inAnyOrder(String name, Supplier<BorderQuestions> world, Consumer<BorderQuestions> one,
            Consumer<BorderQuestions> other) {
        Look.alike(name, world, x -> {
            one.accept(x);
            other.accept(x);
        }, x -> {
            other.accept(x);
            one.accept(x);
        });
    }

    /** What does not hang together may be done in any order. */
    private static void doneInAnyOrder() {
        inAnyOrder("know 0, tire 0", SOME, x -> x.know(0, 1), x -> x.tire(0, 9));
        inAnyOrder("know 0, know 2", SOME, x -> x.know(0, 1), x -> x.know(2, 2));
        inAnyOrder("tire 1, row 1", SOME, x -> x.tire(1, 30), x -> x.row(1, 2, 1));
        inAnyOrder("a GUARD, a QUESTION", SOME, x -> x.guard(6, 1, 5), x -> x.question(5, 1));
        inAnyOrder("bring 0, bring 1", SOME, x -> x.bring(0, 2), x -> x.bring(1, -1));
        inAnyOrder("ask 0 of 1, tire 0", SOME, x -> x.ask(0, 1), x -> x.tire(0, 0));
        inAnyOrder("hear, plan", SOME, x -> x.hear(2, 1, true), x -> x.plan(2, 0));
        inAnyOrder("plan, book", SOME, x -> x.plan(1, 12), x -> x.book(2, 7));
        inAnyOrder("feed, act", SOME, x -> x.feed(';'), x -> x.act(0, 2, 1));
        inAnyOrder("a tape, an item of another", SOME, x -> x.tape(0, 1, 4), x -> x.item(2, 4, 4));
        inAnyOrder("act, undo", SOME, x -> x.act(0, 1, 2), x -> x.undo());
        inAnyOrder("feed, undo", SOME, x -> x.feed(';'), x -> x.undo());
        inAnyOrder("a tape, undo", SOME, x -> x.tape(0, 3, 4), x -> x.undo());
        inAnyOrder("HEARD emptied, the PLAN emptied", ALL, x -> x.hear(-1, 9, true), x -> x.plan(-1, 9));
        inAnyOrder("the PLAN emptied, the BOOK emptied", ALL, x -> x.plan(-1, -9), x -> x.book(-1, 999));
    }

    /** A GUARD or a QUESTION that comes where another was ahead of an undo has nothing of that one. */
    private static void newOnes() {
        Look.alike("a GUARD after an undo", SOME, x -> {
            x.image();
            x.guard(6, 9, 4095);
            x.tire(3, 99);
            x.row(3, 0, 9);
            x.row(3, 3, 9);
            x.question(4095, 99);
            x.bring(4, 3);
            x.ask(4, 3);
            x.undo();
            x.guard(6, 0, 0);
            x.question(1, 1);
        }, x -> {
            x.image();
            x.guard(6, 0, 0);
            x.question(1, 1);
        });
        Look.alike("rows of HEARD, the PLAN and the BOOK after emptying", ALL, x -> {
            x.hear(-1, 0, true);
            x.plan(-1, 0);
            x.book(-1, 0);
            x.hear(0, 0, true);
            x.plan(2, 0);
            x.book(0, 10);
        }, x -> {
            x.hear(-1, 0, false);
            x.hear(0, 0, true);
            x.plan(-1, 60);
            x.plan(2, 0);
            x.book(-1, 100);
            x.book(0, 10);
        });
    }
}
