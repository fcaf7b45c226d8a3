import java.util.ArrayList;
import java.util.List;
import java.util.function.Consumer;
import java.util.function.Supplier;

/**
 * All that can be seen of an object, read in parts, each from an object of its own: one object answers 512 calls at most,
 * and what is not told otherwise (the ROW, THE TEXT, THE IMAGE) is read by calls that change it.
 */
final class Look {
    static final int PARTS = 4;

    interface Call {
        long on(BorderQuestions x);
    }

    private final List<String> names = new ArrayList<>();
    private final List<Long> answers = new ArrayList<>();

    private Look() {
    }

    private void at(String call, long answer) {
        names.add(call);
        answers.add(answer);
    }

    static Look part(int part, BorderQuestions x) {
        Look look = new Look();
        switch (part) {
            case 0: look.guards(x); break;
            case 1: look.questions(x); break;
            case 2: look.tapes(x); break;
            default: look.behind(x); break;
        }
        return look;
    }

    private void counts(BorderQuestions x) {
        for (int what = 0; what < 8; what++) {
            at("count(" + what + ")", x.count(what));
        }
    }

    private void guards(BorderQuestions x) {
        counts(x);
        for (int p = 0; p < 6; p++) {
            for (int what = 0; what < 16; what += what == 6 ? 4 : 1) {
                at("of(" + p + ", " + what + ")", x.of(p, what));
            }
            at("can(" + p + ", 0)", x.can(p, 0));
            at("can(" + p + ", 1)", x.can(p, 1));
        }
        rows(x);
    }

    private void rows(BorderQuestions x) {
        for (int p = 0; p < 6; p++) {
            for (int i = 0; i < 4; i++) {
                at("row(" + p + ", " + i + ", 0)", x.row(p, i, 0));
            }
        }
    }

    private void sacks(BorderQuestions x) {
        for (int q = 0; q < 6; q++) {
            for (int what = 0; what < 4; what++) {
                at("sack(" + q + ", " + what + ")", x.sack(q, what));
            }
        }
    }

    private void questions(BorderQuestions x) {
        sacks(x);
        for (int what = 0; what < 16; what += what == 6 ? 4 : 1) {
            at("told(" + what + ")", x.told(what));
        }
        for (int p = 0; p < 6; p++) {
            at("of(" + p + ", 20)", x.of(p, 20));
            at("of(" + p + ", 22)", x.of(p, 22));
        }
        at("ends(0)", x.ends(0));
        at("ends(1)", x.ends(1));
        at("looked()", x.looked());
        at("on(7, 0)", x.on(7, 0));
        at("mean(0)", x.mean(0));
        for (int i = 0; i < 13; i++) {
            at("trace(" + i + ")", x.trace(i));
        }
        // The PLAN, HEARD and the BOOK told by what they come to from another start.
        for (int p = 0; p < 6; p++) {
            at("know(" + p + ", 0)", x.know(p, 0));
        }
        at("ends(0), nothing known", x.ends(0));
        at("ends(1), nothing known", x.ends(1));
        for (int p = 0; p < 6; p++) {
            at("can(" + p + ", 0), nothing known", x.can(p, 0));
        }
        at("hear(0, 0, true)", x.hear(0, 0, true));
        at("plan(0, 0)", x.plan(0, 0));
        at("book(0, 0)", x.book(0, 0));
    }

    private void tapes(BorderQuestions x) {
        for (int t = 0; t < 6; t++) {
            long read = 0;
            for (int i = 0; i < 61 && read != Long.MIN_VALUE; i++) {
                read = x.read(t, i);
                at("read(" + t + ", " + i + ")", read);
            }
        }
        for (int t = 0; t < 6; t++) {
            // By how it is cut an item tells of which sort it is.
            at("item(" + t + ", 0, ..)", x.item(t, 0, 0x1_8000_8081L));
            at("read(" + t + ", 0)", x.read(t, 0));
            at("item(" + t + ", 0, 0)", x.item(t, 0, 0));
            for (int other = 0; other < 6; other++) {
                at("shift(" + t + ", 0, " + other + ", 0, 0)", x.shift(t, 0, other, 0, 0));
            }
        }
    }

    private void behind(BorderQuestions x) {
        at("border()", x.border());
        at("count(6)", x.count(6));
        at("told(1)", x.told(1));
        for (int p = 0; p < 6; p++) {
            at("of(" + p + ", 10) by the text", x.of(p, 10));
        }
        at("undo()", x.undo());
        counts(x);
        for (int p = 0; p < 6; p++) {
            for (int what = 0; what < 7; what++) {
                at("of(" + p + ", " + what + ") as the image", x.of(p, what));
            }
            at("of(" + p + ", 10) as the image", x.of(p, 10));
        }
        sacks(x);
        at("told(0)", x.told(0));
        at("told(1)", x.told(1));
        at("ends(0)", x.ends(0));
        at("ends(1)", x.ends(1));
        at("looked()", x.looked());
        rows(x);
    }

    private static void compare(String name, Look got, Look want) {
        Due.is(name + ": how much is seen", got.answers.size(), want.answers.size());
        for (int i = 0; i < got.answers.size() && i < want.answers.size(); i++) {
            Due.is(name + ", then " + want.names.get(i), got.answers.get(i), want.answers.get(i));
        }
    }

    /** After what is done all looks as it does after what is done otherwise. */
    static void alike(String name, Supplier<BorderQuestions> world, Consumer<BorderQuestions> done, Consumer<BorderQuestions> otherwise) {
        for (int part = 0; part < PARTS; part++) {
            BorderQuestions one = world.get();
            done.accept(one);
            BorderQuestions other = world.get();
            otherwise.accept(other);
            compare(name, part(part, one), part(part, other));
        }
    }

    /** The call answers what is due, and changes nothing. */
    static void nothing(String name, Supplier<BorderQuestions> world, long due, Call call) {
        Due.is(name, call.on(world.get()), due);
        alike(name, world, x -> call.on(x), x -> { });
    }

    /** The call changes nothing, whatever it answers. */
    static void asked(String name, Supplier<BorderQuestions> world, Call call) {
        alike(name, world, x -> call.on(x), x -> { });
    }
}
