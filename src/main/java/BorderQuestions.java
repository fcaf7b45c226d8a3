import java.util.Arrays;

public final class BorderQuestions {
    public static final int NONE = -1, BAD = -2, STATE = -3, FULL = -4;
    public static final long NO = Long.MIN_VALUE;

    private static final int NOBODY = -5, NO_NUMBER = -10001;
    private static final int NOTHING = -11, CAST = -12, PLACE = -13, SIZE = -14;
    private static final int MATTERS = 12, SETS = 4096;
    private static final int MOST = 6, KINDS = 7, PARTS = 4;
    private static final int GUARD = 0, DEEP = 1, SIMPLE = 2, LAWYER = 3, SHEPHERD = 4, BOY = 5, TOLD = 6;
    private static final int WAITING = 0, THROUGH = 1, FINED = 2;
    private static final int LAST_HOUR = 9999, HOURS_AT_ONCE = 60;
    private static final int SHORTS = 1, SORTS = 5, TAPE_MOST = 60;

    private final Yard now = new Yard();
    private final Yard kept = new Yard();
    private final Yard tried = new Yard();
    private final Finder finder = new Finder();
    private final Rules rules = finder.rules;
    private final Reader reader = new Reader();
    private final Acts acts = new Acts();
    private final Tape[] tapes = new Tape[MOST];
    private boolean imaged;

    public BorderQuestions() {
        for (int i = 0; i < MOST; i++) {
            tapes[i] = new Tape();
        }
    }

    // ---- guards, questions, borders

    public int guard(int kind, int v, int knows) {
        if (!isKind(kind)) {
            return NONE;
        }
        if (!isDigit(v) || !isSet(knows)) {
            return BAD;
        }
        return now.addGuard(kind, v, knows);
    }

    public int of(int guard, int what) {
        Guard one = now.guardAt(guard);
        if (one == null) {
            return NO_NUMBER;
        }
        switch (what) {
            case 0:
                return one.kind;
            case 1:
                return one.v;
            case 2:
                return one.knows;
            case 3:
                return one.tired;
            case 4:
                return finder.stumps(now, guard);
            case 5:
                return finder.knewCount(now, guard);
            case 6:
                return finder.knewLeast(now, guard);
            default:
                return ofQuestion(one, guard, what);
        }
    }

    private int ofQuestion(Guard one, int guard, int what) {
        Question weighed = now.questionAt(what - 10);
        if (weighed != null) {
            return rules.wit(now, guard, one.knows, weighed.matters);
        }
        Question studied = now.questionAt(what - 20);
        if (studied != null) {
            return finder.study(now, guard, studied.matters);
        }
        return NO_NUMBER;
    }

    public int question(int matters, int goods) {
        if (!isSet(matters) || !isUpTo99(goods)) {
            return BAD;
        }
        return now.addQuestion(matters, goods);
    }

    public int sack(int question, int what) {
        Question one = now.questionAt(question);
        if (one == null) {
            return NONE;
        }
        switch (what) {
            case 0:
                return one.matters;
            case 1:
                return one.goods;
            case 2:
                return one.state;
            case 3:
                return one.brought;
            default:
                return NONE;
        }
    }

    public int know(int guard, int matters) {
        Guard one = now.guardAt(guard);
        if (one == null) {
            return NONE;
        }
        if (!isSet(matters)) {
            return BAD;
        }
        int was = one.knows;
        one.knows = matters;
        return was;
    }

    public int tire(int guard, int n) {
        Guard one = now.guardAt(guard);
        if (one == null) {
            return NONE;
        }
        if (!isUpTo99(n)) {
            return BAD;
        }
        int was = one.tired;
        one.tired = n;
        return was;
    }

    public int bring(int question, int guard) {
        Question one = now.questionAt(question);
        if (one == null) {
            return NONE;
        }
        if (guard != -1 && now.guardAt(guard) == null) {
            return NONE;
        }
        int was = one.brought;
        one.brought = guard == -1 ? NOBODY : guard;
        return was;
    }

    public int ask(int question, int guard) {
        Question one = now.questionAt(question);
        if (one == null || now.guardAt(guard) == null) {
            return NONE;
        }
        if (one.state != WAITING) {
            return STATE;
        }
        rules.putTo(now, question, guard);
        return one.state;
    }

    public int row(int guard, int part, int n) {
        Guard one = now.guardAt(guard);
        if (one == null || part < 0 || part >= PARTS) {
            return NONE;
        }
        if (!isDigit(n)) {
            return BAD;
        }
        if (one.kind != TOLD) {
            return STATE;
        }
        return one.changeRow(part, n);
    }

    public int feed(int sign) {
        if (sign < 0 || sign > 127) {
            return BAD;
        }
        return reader.add(sign);
    }

    public int border() {
        Border spare = rules.spareBorder();
        if (spare == null) {
            return FULL;
        }
        int fault = reader.readInto(spare);
        if (fault >= 0) {
            return -10 - fault;
        }
        now.held = spare;
        return rules.keepSpare();
    }

    public int told(int what) {
        switch (what) {
            case 0:
                return now.hour;
            case 1:
                return now.rest();
            case 2:
                return now.goodsThrough();
            case 3:
                return now.finedCount();
            case 4:
                return now.waiting();
            case 5:
                return finder.enough(now);
            case 6:
                return finder.loadGoods(now);
            default:
                return now.questionAt(what - 10) == null ? NONE : finder.loadGuard(now, what - 10);
        }
    }

    // ---- hours

    public int pass(int n) {
        if (!isHours(n)) {
            return BAD;
        }
        if (now.hour + n > LAST_HOUR) {
            return STATE;
        }
        rules.letPass(now, n);
        return now.hour;
    }

    public int on(int n, int what) {
        Guard known = now.guardAt(what - 10);
        Guard tired = now.guardAt(what - 20);
        Question stated = now.questionAt(what - 30);
        if (what != 0 && known == null && tired == null && stated == null) {
            return NONE;
        }
        if (!isHours(n)) {
            return BAD;
        }
        tried.copy(now);
        rules.letPass(tried, n);
        return onTried(what);
    }

    private int onTried(int what) {
        Guard known = tried.guardAt(what - 10);
        if (known != null) {
            return known.knows;
        }
        Guard tired = tried.guardAt(what - 20);
        if (tired != null) {
            return tired.tired;
        }
        Question stated = tried.questionAt(what - 30);
        if (stated != null) {
            return stated.state;
        }
        return tried.goodsThrough();
    }

    // ---- heard, odds

    public int hear(int guard, int question, boolean canAnswer) {
        if (guard == -1) {
            return now.heard.empty();
        }
        if (now.guardAt(guard) == null || now.questionAt(question) == null) {
            return NONE;
        }
        return now.heard.add(guard, question, canAnswer ? 1 : 0);
    }

    public int can(int guard, int what) {
        if (now.guardAt(guard) == null) {
            return NONE;
        }
        switch (what) {
            case 0:
                return finder.canCount(now, guard);
            case 1:
                return finder.canLeast(now, guard);
            default:
                return NONE;
        }
    }

    public long odds(int guard, int question, int part) {
        Guard one = now.guardAt(guard);
        Question other = now.questionAt(question);
        if (one == null || other == null || !isPart(part)) {
            return NO;
        }
        return lowest(part, finder.oddsAbove(now, guard, other.matters), MATTERS);
    }

    public long mean(int part) {
        if (!isPart(part) || now.guardCount == 0) {
            return NO;
        }
        return lowest(part, now.knownCount(), now.guardCount);
    }

    // ---- plans, books

    public int plan(int what, int n) {
        if (what == -1) {
            return now.plan.empty();
        }
        if (!isPlanned(what, n)) {
            return NONE;
        }
        return now.plan.add(what, n, 0);
    }

    private boolean isPlanned(int what, int n) {
        switch (what) {
            case 0:
                return true;
            case 1:
                return n >= 0 && now.questionAt(n / 10) != null && now.guardAt(n % 10) != null;
            case 2:
                return now.guardAt(n) != null;
            case 3:
                return now.questionAt(n) != null;
            default:
                return false;
        }
    }

    public int ends(int what) {
        if (what != 0 && what != 1) {
            return NONE;
        }
        tried.copy(now);
        for (int i = 0; i < tried.plan.size; i++) {
            rules.carryOut(tried, tried.plan.first(i), tried.plan.second(i));
        }
        return what == 0 ? tried.goodsThrough() : tried.finedCount();
    }

    public int book(int question, int goods) {
        if (question == -1) {
            return now.book.empty();
        }
        if (now.questionAt(question) == null) {
            return NONE;
        }
        if (!isUpTo99(goods)) {
            return BAD;
        }
        return now.book.add(question, goods, 0);
    }

    public int looked() {
        for (int i = 0; i < now.book.size; i++) {
            Question one = now.questionAt(now.book.first(i));
            if (one == null || one.goods != now.book.second(i)) {
                return i;
            }
        }
        return NOBODY;
    }

    // ---- judging, the image, acts, tapes

    public int judge(int tape, int i) {
        Tape one = tapeAt(tape);
        if (one == null) {
            return NONE;
        }
        if (one.holds() && one.sort != SHORTS) {
            return CAST;
        }
        for (int p = 0; p < now.guardCount; p++) {
            Guard judged = now.guardAt(p);
            // The room is measured from the row's end: i + p may wrap.
            if (judged == null || i < 0 || i >= one.size - p) {
                return 100 + p;
            }
            if (one.get(i + p) != judged.knows) {
                return p;
            }
        }
        return NOBODY;
    }

    public int image() {
        kept.copy(now);
        imaged = true;
        return now.guardCount;
    }

    public int undo() {
        if (!imaged) {
            return STATE;
        }
        now.copy(kept);
        return now.guardCount;
    }

    public int act(int guard, int act, int x) {
        acts.forget();
        Guard one = now.guardAt(guard);
        if (one == null || act < 0 || act >= Acts.ACTS) {
            return 0;
        }
        return acts.start(one, guard, act, x);
    }

    public int trace(int i) {
        return acts.bodyAt(i);
    }

    public int taken(int guard, int k) {
        if (!isKind(k)) {
            return BAD;
        }
        Guard one = now.guardAt(guard);
        if (one == null) {
            return NOTHING;
        }
        return Acts.isUnder(one.kind, k) ? one.kind : CAST;
    }

    public int count(int what) {
        switch (what) {
            case 0:
                return now.guardCount;
            case 1:
                return now.questionCount;
            case 2:
                return rules.borderCount;
            case 3:
                return now.heard.size;
            case 4:
                return now.plan.size;
            case 5:
                return now.book.size;
            case 6:
                return reader.length;
            case 7:
                return acts.ran;
            default:
                return BAD;
        }
    }

    public int tape(int tape, int sort, int n) {
        Tape one = tapeAt(tape);
        if (one == null) {
            return NONE;
        }
        if (sort < -1 || sort >= SORTS) {
            return BAD;
        }
        if (sort == -1) {
            one.become(-1, 0);
            return 1;
        }
        if (n > TAPE_MOST) {
            return BAD;
        }
        if (n < 0) {
            return SIZE;
        }
        one.become(sort, n);
        return 1;
    }

    public int item(int tape, int i, long v) {
        Tape one = tapeAt(tape);
        if (one == null) {
            return NONE;
        }
        if (!one.holds()) {
            return NOTHING;
        }
        if (!one.hasPlace(i)) {
            return PLACE;
        }
        one.put(i, v);
        return 1;
    }

    public long read(int tape, int i) {
        Tape one = tapeAt(tape);
        if (one == null || !one.holds() || !one.hasPlace(i)) {
            return NO;
        }
        return one.get(i);
    }

    public int shift(int tape, int i, int other, int j, int n) {
        Tape from = tapeAt(tape);
        Tape to = tapeAt(other);
        if (from == null || to == null) {
            return NONE;
        }
        if (!from.holds() || !to.holds()) {
            return NOTHING;
        }
        if (from.sort != to.sort) {
            return CAST;
        }
        if (!from.hasRun(i, n) || !to.hasRun(j, n)) {
            return PLACE;
        }
        System.arraycopy(from.items, i, to.items, j, n);
        return n;
    }

    // ---- what several calls look at

    private Tape tapeAt(int i) {
        return i < 0 || i >= tapes.length ? null : tapes[i];
    }

    private static boolean isKind(int kind) {
        return kind >= 0 && kind < KINDS;
    }

    private static boolean isDigit(int n) {
        return n >= 0 && n <= 9;
    }

    private static boolean isUpTo99(int n) {
        return n >= 0 && n <= 99;
    }

    private static boolean isSet(int bits) {
        return bits >= 0 && bits < SETS;
    }

    private static boolean isHours(int n) {
        return n >= 0 && n <= HOURS_AT_ONCE;
    }

    private static boolean isPart(int part) {
        return part == 0 || part == 1;
    }

    private static long lowest(int part, int above, int below) {
        int larger = below;
        int smaller = above;
        // Euclid's numbers shrink below these small ones long before 100 steps.
        for (int step = 0; step < 100 && smaller != 0; step++) {
            int left = larger % smaller;
            larger = smaller;
            smaller = left;
        }
        int shared = Math.max(1, larger);
        return part == 0 ? above / shared : below / shared;
    }

    static final class Guard {
        private int kind;
        private int v;
        private int knows;
        private int tired;
        private final int[] parts = new int[PARTS];

        private void become(int newKind, int newV, int newKnows) {
            kind = newKind;
            v = newV;
            knows = newKnows;
            tired = 0;
            Arrays.fill(parts, 0);
        }

        private void copy(Guard other) {
            kind = other.kind;
            v = other.v;
            knows = other.knows;
            tired = other.tired;
            System.arraycopy(other.parts, 0, parts, 0, PARTS);
        }

        private int changeRow(int part, int n) {
            if (part < 0 || part >= parts.length) {
                return NONE;
            }
            int was = parts[part];
            parts[part] = n;
            return was;
        }
    }

    static final class Question {
        private int matters;
        private int goods;
        private int state;
        private int brought;

        private void become(int newMatters, int newGoods) {
            matters = newMatters;
            goods = newGoods;
            state = WAITING;
            brought = NOBODY;
        }

        private void copy(Question other) {
            matters = other.matters;
            goods = other.goods;
            state = other.state;
            brought = other.brought;
        }
    }

    /** Rows of three numbers, up to a limit: HEARD, a PLAN, a BOOK. */
    static final class Rows {
        private static final int WIDTH = 3;
        private final int[] cells;
        private final int most;
        private int size;

        private Rows(int limit) {
            most = Math.max(0, Math.min(limit, 100));
            cells = new int[most * WIDTH];
        }

        private int empty() {
            size = 0;
            return 0;
        }

        private int add(int first, int second, int third) {
            if (size >= most) {
                return FULL;
            }
            cells[size * WIDTH] = first;
            cells[size * WIDTH + 1] = second;
            cells[size * WIDTH + 2] = third;
            size++;
            return size;
        }

        private int first(int i) {
            return cell(i, 0);
        }

        private int second(int i) {
            return cell(i, 1);
        }

        private int third(int i) {
            return cell(i, 2);
        }

        private int cell(int i, int column) {
            return i < 0 || i >= size ? NONE : cells[i * WIDTH + column];
        }

        private void copy(Rows other) {
            size = Math.min(other.size, most);
            System.arraycopy(other.cells, 0, cells, 0, Math.min(cells.length, other.cells.length));
        }
    }

    /** All that THE IMAGE keeps. */
    static final class Yard {
        private final Guard[] guards = new Guard[MOST];
        private final Question[] questions = new Question[MOST];
        private final Rows heard = new Rows(5);
        private final Rows plan = new Rows(10);
        private final Rows book = new Rows(8);
        private int guardCount;
        private int questionCount;
        private int hour;
        private Border held;

        private Yard() {
            for (int i = 0; i < MOST; i++) {
                guards[i] = new Guard();
                questions[i] = new Question();
            }
        }

        private Guard guardAt(int p) {
            return p < 0 || p >= guardCount || p >= guards.length ? null : guards[p];
        }

        private Question questionAt(int q) {
            return q < 0 || q >= questionCount || q >= questions.length ? null : questions[q];
        }

        private int addGuard(int kind, int v, int knows) {
            if (guardCount >= guards.length) {
                return FULL;
            }
            guards[guardCount].become(kind, v, knows);
            guardCount++;
            return guardCount - 1;
        }

        private int addQuestion(int matters, int goods) {
            if (questionCount >= questions.length) {
                return FULL;
            }
            questions[questionCount].become(matters, goods);
            questionCount++;
            return questionCount - 1;
        }

        private void copy(Yard other) {
            for (int i = 0; i < MOST; i++) {
                guards[i].copy(other.guards[i]);
                questions[i].copy(other.questions[i]);
            }
            guardCount = other.guardCount;
            questionCount = other.questionCount;
            hour = other.hour;
            held = other.held;
            heard.copy(other.heard);
            plan.copy(other.plan);
            book.copy(other.book);
        }

        private int rest() {
            return held == null ? 5 : held.rest;
        }

        private boolean isWaiting(int q) {
            Question one = questionAt(q);
            return one != null && one.state == WAITING;
        }

        private int goodsThrough() {
            int goods = 0;
            for (int q = 0; q < questionCount; q++) {
                Question one = questionAt(q);
                goods += one != null && one.state == THROUGH ? one.goods : 0;
            }
            return goods;
        }

        private int finedCount() {
            int fined = 0;
            for (int q = 0; q < questionCount; q++) {
                Question one = questionAt(q);
                fined += one != null && one.state == FINED ? 1 : 0;
            }
            return fined;
        }

        private int waiting() {
            int bits = 0;
            for (int q = 0; q < questionCount; q++) {
                bits |= isWaiting(q) ? 1 << q : 0;
            }
            return bits;
        }

        private int knownCount() {
            int known = 0;
            for (int p = 0; p < guardCount; p++) {
                Guard one = guardAt(p);
                known += one == null ? 0 : Integer.bitCount(one.knows);
            }
            return known;
        }
    }

    /** A BORDER as read: signs one behind the other, each deed behind what it joins, each CLAUSE's worth behind its E. */
    static final class Border {
        private static final int CODES = 100;
        private static final int NOT = 0, AND = 1, OR = 2, TESTS = 3, WORTHS = 10000;
        private static final int SMALLER = 0, EQUAL = 1;
        private static final int NUMBERS = 100, SIGNS = 3;

        private final int[] codes = new int[CODES];
        private final int[] facts = new int[6];
        private int codeCount;
        private int rest;

        private void clear() {
            codeCount = 0;
            rest = 5;
        }

        private void addCode(int code) {
            if (codeCount < CODES) {
                codes[codeCount] = code;
                codeCount++;
            }
        }

        private void addTest(int letter, int sign, int number) {
            addCode(TESTS + (letter * SIGNS + sign) * NUMBERS + number);
        }

        private void addWorth(int worth) {
            addCode(WORTHS + worth);
        }

        /** What all keen and dull give together: it hangs on no one MATTER, so it is had once for many sets. */
        private int bonus(Guard one, int p, int v, int n, int hour) {
            facts[0] = p;
            facts[1] = one == null ? 0 : one.kind;
            facts[2] = v;
            facts[3] = one == null ? 0 : one.tired / 10;
            facts[4] = n;
            facts[5] = hour % 10;
            int sum = 0;
            // The bits of one number are the stack: E nests so little that it never needs 32.
            int stack = 0;
            for (int i = 0; i < codeCount && i < CODES; i++) {
                int code = codes[i];
                int top = stack & 1;
                if (code == NOT) {
                    stack ^= 1;
                } else if (code == AND) {
                    stack = (stack >>> 1) & (top | -2);
                } else if (code == OR) {
                    stack = (stack >>> 1) | top;
                } else if (code < WORTHS - NUMBERS) {
                    stack = (stack << 1) | (testHolds(code - TESTS) ? 1 : 0);
                } else {
                    sum += top * (code - WORTHS);
                    stack = 0;
                }
            }
            return sum;
        }

        private boolean testHolds(int test) {
            int number = test % NUMBERS;
            int sign = test / NUMBERS % SIGNS;
            int letter = test / NUMBERS / SIGNS;
            if (letter < 0 || letter >= facts.length) {
                return false;
            }
            if (sign == SMALLER) {
                return facts[letter] < number;
            }
            return sign == EQUAL ? facts[letter] == number : facts[letter] > number;
        }
    }

    /** THE TEXT, and how a BORDER is read from it: no step is taken over a sign with which none begins so. */
    static final class Reader {
        private static final int TEXT_MOST = 100, CLAUSES = 10, NESTED = 4, END = -1;
        private static final String LETTERS = "pkvtnh", SIGNS = "<=>", DIGITS = "0123456789";

        private final byte[] text = new byte[TEXT_MOST];
        private int length;
        private int at;
        private int sign;
        private int number;
        private Border made;

        private int add(int fed) {
            if (length >= TEXT_MOST) {
                return FULL;
            }
            text[length] = (byte) fed;
            length++;
            return length;
        }

        /** The FAULT, or -1. */
        private int readInto(Border border) {
            made = border;
            made.clear();
            goTo(0);
            boolean whole = readClause();
            for (int more = 1; more < CLAUSES && whole && sign != END; more++) {
                whole = skip(';') && readClause();
            }
            whole = whole && sign == END;
            length = 0;
            return whole ? -1 : at;
        }

        private void goTo(int place) {
            at = place;
            sign = place < 0 || place >= length || place >= TEXT_MOST ? END : text[place];
        }

        private boolean skip(int due) {
            if (sign != due) {
                return false;
            }
            goTo(at + 1);
            return true;
        }

        private int placeIn(String signs) {
            for (int i = 0; i < signs.length(); i++) {
                if (signs.charAt(i) == sign) {
                    return i;
                }
            }
            return -1;
        }

        private boolean readClause() {
            int first = sign;
            // What begins like none of the three stops at the first sign of any word.
            if (!readNumbered(first == 'k' ? "keen " : first == 'd' ? "dull " : "rest ")) {
                return false;
            }
            int worth = first == 'd' ? -number : number;
            if (first == 'r') {
                made.rest = worth;
                return true;
            }
            if (!skip(' ') || !readEither(0)) {
                return false;
            }
            made.addWorth(worth);
            return true;
        }

        private boolean readNumbered(String word) {
            for (int i = 0; i < word.length(); i++) {
                if (!skip(word.charAt(i))) {
                    return false;
                }
            }
            return readNumber();
        }

        private boolean readNumber() {
            int first = placeIn(DIGITS);
            if (first < 0) {
                return false;
            }
            goTo(at + 1);
            number = first;
            int second = placeIn(DIGITS);
            if (second >= 0) {
                goTo(at + 1);
                number = first * 10 + second;
            }
            return true;
        }

        /** E: an & is done as soon as what follows it is read, an | when the T that follows it has come to its end. */
        private boolean readEither(int depth) {
            boolean andDue = false;
            boolean orDue = false;
            for (int more = 0; more < TEXT_MOST; more++) {
                if (!readPart(depth)) {
                    return false;
                }
                if (andDue) {
                    made.addCode(Border.AND);
                }
                andDue = skip('&');
                if (!andDue) {
                    if (orDue) {
                        made.addCode(Border.OR);
                    }
                    orDue = skip('|');
                    if (!orDue) {
                        return true;
                    }
                }
            }
            return false;
        }

        private boolean readPart(int depth) {
            if (sign != '!' && sign != '(') {
                return readTest();
            }
            if (depth >= NESTED) {
                return false;
            }
            if (skip('(')) {
                return readEither(depth + 1) && skip(')');
            }
            goTo(at + 1);
            if (!readPart(depth + 1)) {
                return false;
            }
            made.addCode(Border.NOT);
            return true;
        }

        private boolean readTest() {
            int letter = placeIn(LETTERS);
            if (letter < 0) {
                return false;
            }
            goTo(at + 1);
            int comparison = placeIn(SIGNS);
            if (comparison < 0) {
                return false;
            }
            goTo(at + 1);
            if (!readNumber()) {
                return false;
            }
            made.addTest(letter, comparison, number);
            return true;
        }
    }

    /** The BORDERS, WIT, and how HOURS go. */
    static final class Rules {
        private final Border[] borders = new Border[MOST];
        private int borderCount;

        private Rules() {
            for (int i = 0; i < MOST; i++) {
                borders[i] = new Border();
            }
        }

        private Border spareBorder() {
            return borderCount >= borders.length ? null : borders[borderCount];
        }

        private int keepSpare() {
            borderCount++;
            return borderCount - 1;
        }

        private int wit(Yard yard, int p, int knows, int matters) {
            Guard one = yard.guardAt(p);
            if (one == null) {
                return 0;
            }
            int n = Integer.bitCount(matters);
            int bonus = yard.held == null ? 0 : yard.held.bonus(one, p, one.v, n, yard.hour);
            return witKnowing(yard, p, one.v, n, Integer.bitCount(matters & knows), bonus);
        }

        private int witKnowing(Yard yard, int p, int v, int n, int known, int bonus) {
            Guard one = yard.guardAt(p);
            if (one == null) {
                return 0;
            }
            int sum = 2 * known - (n - known) - one.tired / 10 + bonus;
            switch (one.kind) {
                case DEEP:
                    return sum + v;
                case SIMPLE:
                    return sum / 2 + 1;
                case LAWYER:
                    return n < 2 ? 0 : sum;
                case SHEPHERD:
                    return sum + v + (yard.hour % 3 == 0 ? 3 : 0);
                case BOY:
                    return sum / 2 + 1 - (one.tired >= 30 ? 4 : 0);
                case TOLD:
                    return (n < 2 ? 0 : sum) + one.parts[n & 3] - 4;
                default:
                    return sum;
            }
        }

        private boolean answers(Yard yard, int p, int matters) {
            Guard one = yard.guardAt(p);
            return one != null && wit(yard, p, one.knows, matters) > 0;
        }

        /** A QUESTION is ASKED of a GUARD. */
        private void putTo(Yard yard, int q, int p) {
            Question one = yard.questionAt(q);
            Guard asked = yard.guardAt(p);
            if (one == null || asked == null || one.state != WAITING) {
                return;
            }
            if (answers(yard, p, one.matters)) {
                one.state = THROUGH;
                asked.tired = Math.min(99, asked.tired + 10);
            } else {
                one.state = FINED;
                asked.knows |= Integer.lowestOneBit(one.matters & ~asked.knows);
            }
        }

        private void letPass(Yard yard, int n) {
            for (int i = 0; i < n; i++) {
                letHourPass(yard);
            }
        }

        private void letHourPass(Yard yard) {
            for (int q = 0; q < yard.questionCount; q++) {
                Question one = yard.questionAt(q);
                if (one != null) {
                    putTo(yard, q, one.brought);
                }
            }
            int rest = yard.rest();
            for (int p = 0; p < yard.guardCount; p++) {
                Guard one = yard.guardAt(p);
                if (one != null) {
                    one.tired = Math.max(0, one.tired - rest);
                }
            }
            yard.hour++;
        }

        /** A row of the PLAN. */
        private void carryOut(Yard yard, int what, int n) {
            if (what == 0) {
                letHourPass(yard);
            } else if (what == 1) {
                putTo(yard, n / 10, n % 10);
            } else if (what == 2) {
                Guard one = yard.guardAt(n);
                if (one != null) {
                    one.tired = 0;
                }
            } else {
                Question one = yard.questionAt(n);
                if (one != null) {
                    one.state = WAITING;
                }
            }
        }
    }

    /** LOAD, ENOUGH, STUDY, STUMPS, KNEW, CAN and ODDS: asked of a yard, which they leave as it is. */
    static final class Finder {
        private static final int GUARD_SETS = 64;
        private static final int COUNTS = 13;

        private final Rules rules = new Rules();
        private final int[] able = new int[MOST];
        private final int[] most = new int[(MOST + 1) * GUARD_SETS];
        private final int[] stumped = new int[COUNTS];
        private final int[] rowMatters = new int[5];
        private final int[] rowFits = new int[5];
        private int rowCount;

        /** By QUESTION the GUARDS (bits) who can ANSWER it; none, if it is not WAITING. */
        private void findAble(Yard yard) {
            for (int q = 0; q < MOST; q++) {
                Question one = yard.questionAt(q);
                able[q] = 0;
                for (int p = 0; p < yard.guardCount && one != null && one.state == WAITING; p++) {
                    able[q] |= rules.answers(yard, p, one.matters) ? 1 << p : 0;
                }
            }
        }

        private int enough(Yard yard) {
            findAble(yard);
            int best = NOBODY;
            int fewest = MOST + 1;
            for (int set = 0; set < 1 << yard.guardCount; set++) {
                if (Integer.bitCount(set) < fewest && answersAll(yard, set)) {
                    best = set;
                    fewest = Integer.bitCount(set);
                }
            }
            return best;
        }

        private boolean answersAll(Yard yard, int set) {
            for (int q = 0; q < MOST; q++) {
                if (yard.isWaiting(q) && (able[q] & set) == 0) {
                    return false;
                }
            }
            return true;
        }

        /** By QUESTION and the GUARDS taken ahead of it: the most GOODS that it and those behind it can bring. */
        private void findMost(Yard yard) {
            findAble(yard);
            Arrays.fill(most, 0);
            for (int q = yard.questionCount - 1; q >= 0; q--) {
                for (int used = 0; used < GUARD_SETS; used++) {
                    int best = mostFrom(q + 1, used);
                    for (int p = 0; p < MOST; p++) {
                        best = Math.max(best, mostBy(yard, q, p, used));
                    }
                    most[q * GUARD_SETS + used] = best;
                }
            }
        }

        private int mostFrom(int q, int used) {
            int place = q * GUARD_SETS + used;
            return place < 0 || place >= most.length ? 0 : most[place];
        }

        private int mostBy(Yard yard, int q, int p, int used) {
            Question one = yard.questionAt(q);
            if (one == null || q >= MOST || (able[q] & ~used & 1 << p) == 0) {
                return -1;
            }
            return one.goods + mostFrom(q + 1, used | 1 << p);
        }

        private int loadGoods(Yard yard) {
            findMost(yard);
            return mostFrom(0, 0);
        }

        /** The first row: at each QUESTION the least GUARD with whom the most is still to be had. */
        private int loadGuard(Yard yard, int question) {
            findMost(yard);
            int used = 0;
            int brought = NOBODY;
            for (int q = 0; q <= question && q < MOST; q++) {
                brought = firstBest(yard, q, used);
                used |= brought < 0 ? 0 : 1 << brought;
            }
            return brought;
        }

        private int firstBest(Yard yard, int q, int used) {
            for (int p = 0; p < MOST; p++) {
                if (mostBy(yard, q, p, used) == mostFrom(q, used)) {
                    return p;
                }
            }
            return NOBODY;
        }

        /** Each MATTER learnt gives as much as another, so the least ones are learnt one by one. */
        private int study(Yard yard, int p, int matters) {
            Guard one = yard.guardAt(p);
            if (one == null) {
                return NOBODY;
            }
            int learnt = 0;
            for (int i = 0; i <= MATTERS; i++) {
                if (rules.wit(yard, p, one.knows | learnt, matters) > 0) {
                    return learnt;
                }
                learnt |= Integer.lowestOneBit(matters & ~one.knows & ~learnt);
            }
            return NOBODY;
        }

        private int stumps(Yard yard, int p) {
            Guard one = yard.guardAt(p);
            if (one == null) {
                return NOBODY;
            }
            findStumped(yard, p, one.v);
            int best = NOBODY;
            int fewest = COUNTS;
            for (int set = 1; set < SETS; set++) {
                int n = Integer.bitCount(set);
                if (n < fewest && (stumped[n] >> Integer.bitCount(set & one.knows) & 1) == 1) {
                    best = set;
                    fewest = n;
                }
            }
            return best;
        }

        /** By how many MATTERS there are: with how many of them KNOWN (bits) it can not ANSWER. */
        private void findStumped(Yard yard, int p, int v) {
            for (int n = 1; n < COUNTS; n++) {
                stumped[n] = fits(yard, p, v, n, false);
            }
        }

        private int fits(Yard yard, int p, int v, int n, boolean canAnswer) {
            int bonus = yard.held == null ? 0 : yard.held.bonus(yard.guardAt(p), p, v, n, yard.hour);
            int bits = 0;
            for (int known = 0; known <= n; known++) {
                boolean answers = rules.witKnowing(yard, p, v, n, known, bonus) > 0;
                bits |= answers == canAnswer ? 1 << known : 0;
            }
            return bits;
        }

        /** The rows of HEARD that are of the GUARD, each with how many of its MATTERS KNOWN (bits) make it so. */
        private void findRows(Yard yard, int p, int v) {
            rowCount = 0;
            for (int i = 0; i < yard.heard.size; i++) {
                Question one = yard.questionAt(yard.heard.second(i));
                if (one != null && yard.heard.first(i) == p && rowCount < rowFits.length) {
                    rowMatters[rowCount] = one.matters;
                    rowFits[rowCount] = fits(yard, p, v, Integer.bitCount(one.matters), yard.heard.third(i) == 1);
                    rowCount++;
                }
            }
        }

        private boolean allFit(int knows) {
            for (int i = 0; i < rowCount; i++) {
                if ((rowFits[i] >> Integer.bitCount(rowMatters[i] & knows) & 1) == 0) {
                    return false;
                }
            }
            return true;
        }

        private int knewCount(Yard yard, int p) {
            Guard one = yard.guardAt(p);
            findRows(yard, p, one == null ? 0 : one.v);
            int count = 0;
            for (int knows = 0; knows < SETS; knows++) {
                count += allFit(knows) ? 1 : 0;
            }
            return count;
        }

        private int knewLeast(Yard yard, int p) {
            Guard one = yard.guardAt(p);
            findRows(yard, p, one == null ? 0 : one.v);
            for (int knows = 0; knows < SETS; knows++) {
                if (allFit(knows)) {
                    return knows;
                }
            }
            return NOBODY;
        }

        private boolean fitsWith(Yard yard, int p, int v) {
            Guard one = yard.guardAt(p);
            findRows(yard, p, v);
            return one != null && allFit(one.knows);
        }

        private int canCount(Yard yard, int p) {
            int count = 0;
            for (int v = 0; v <= 9; v++) {
                count += fitsWith(yard, p, v) ? 1 : 0;
            }
            return count;
        }

        private int canLeast(Yard yard, int p) {
            for (int v = 0; v <= 9; v++) {
                if (fitsWith(yard, p, v)) {
                    return v;
                }
            }
            return NOBODY;
        }

        /** By how many of the 12 MATTERS it can ANSWER, if that one comes to those of the QUESTION. */
        private int oddsAbove(Yard yard, int p, int matters) {
            int count = 0;
            for (int matter = 0; matter < MATTERS; matter++) {
                count += rules.answers(yard, p, matters | 1 << matter) ? 1 : 0;
            }
            return count;
        }
    }

    /** The KINDS one under another, the BODIES and THE TRACE. */
    static final class Acts {
        private static final int ACTS = 3, LISTENS = 0, NODS = 1, TELLS = 2;
        private static final int TRACE_MOST = 20, DEPTH_MOST = 40;
        private static final int[] ABOVE = {-1, 0, 0, 0, 1, 2, 3};
        // By KIND and act; 0: the KIND has no body of its own for it.
        private static final int[] BODIES = {
            10, 11, 12,
            0, 20, 0,
            30, 0, 0,
            0, 0, 40,
            50, 51, 0,
            0, 0, 60,
            71, 70, 0
        };

        private final int[] trace = new int[TRACE_MOST];
        private int ran;
        private int self;
        private int v;
        private int i;

        private static int above(int kind) {
            return kind < 0 || kind >= ABOVE.length ? -1 : ABOVE[kind];
        }

        private static boolean isUnder(int kind, int k) {
            int one = kind;
            for (int step = 0; step < KINDS && one >= 0; step++) {
                if (one == k) {
                    return true;
                }
                one = above(one);
            }
            return false;
        }

        private void forget() {
            ran = 0;
        }

        private int bodyAt(int place) {
            return place < 0 || place >= ran || place >= TRACE_MOST ? NONE : trace[place];
        }

        private int start(Guard one, int number, int act, int x) {
            self = one.kind;
            v = one.v;
            i = number;
            return perform(self, act, x, 0);
        }

        private void note(int body) {
            if (ran < TRACE_MOST) {
                trace[ran] = body;
            }
            ran++;
        }

        /** The body of the KIND for the act or, if it has none, of the next KIND above that has one. */
        private static int bodyFrom(int kind, int act) {
            int one = kind;
            for (int step = 0; step < KINDS && one >= 0; step++) {
                int place = one * ACTS + act;
                if (place >= 0 && place < BODIES.length && BODIES[place] != 0) {
                    return BODIES[place];
                }
                one = above(one);
            }
            return 0;
        }

        // No act goes 10 bodies deep; the test only keeps the end in sight.
        private int perform(int kind, int act, int x, int depth) {
            int body = bodyFrom(kind, act);
            if (body == 0 || depth >= DEPTH_MOST) {
                return 0;
            }
            note(body);
            return run(body, x, depth + 1);
        }

        private int run(int body, int x, int depth) {
            switch (body) {
                case 10:
                    return x + i;
                case 11:
                    return perform(self, LISTENS, x, depth) - v;
                case 12:
                    return perform(self, NODS, x, depth) * 2;
                case 20:
                    return perform(GUARD, NODS, x, depth) ^ 6;
                case 30:
                    return perform(GUARD, LISTENS, x * 3, depth);
                case 40:
                    return perform(GUARD, TELLS, x, depth) + perform(self, NODS, 1, depth);
                case 50:
                    return -perform(DEEP, LISTENS, x, depth);
                case 51:
                    return perform(DEEP, NODS, x + 1, depth);
                case 60:
                    return perform(SIMPLE, TELLS, x - i, depth);
                case 70:
                    return perform(LAWYER, NODS, x, depth) + perform(LAWYER, LISTENS, 2, depth);
                case 71:
                    return perform(LAWYER, LISTENS, x, depth) ^ v;
                default:
                    return 0;
            }
        }
    }

    /** A row of one sort; each item is kept as the number that it reads as. */
    static final class Tape {
        private final long[] items = new long[TAPE_MOST];
        private int sort = -1;
        private int size;

        private boolean holds() {
            return sort >= 0;
        }

        private void become(int newSort, int n) {
            sort = newSort;
            size = Math.max(0, Math.min(n, TAPE_MOST));
            Arrays.fill(items, 0L);
        }

        private boolean hasPlace(int place) {
            return place >= 0 && place < size;
        }

        private boolean hasRun(int place, int n) {
            return place >= 0 && n >= 0 && place <= size && n <= size - place;
        }

        private long get(int place) {
            return hasPlace(place) ? items[place] : 0;
        }

        private void put(int place, long value) {
            if (hasPlace(place)) {
                items[place] = cut(value);
            }
        }

        private long cut(long value) {
            switch (sort) {
                case 0:
                    return (byte) value;
                case SHORTS:
                    return (short) value;
                case 2:
                    return (int) value;
                case 3:
                    return value;
                default:
                    return value != 0 ? 1 : 0;
            }
        }
    }
}
