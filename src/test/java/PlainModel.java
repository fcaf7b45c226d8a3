import java.util.ArrayList;
import java.util.List;

/** The document told a second time, by other ways than the program's: all sets tried one by one, Java's own dispatch and arrays. */
final class PlainModel {
    static final long NO = Long.MIN_VALUE;
    static final int[] UP = {-1, 0, 0, 0, 1, 2, 3};

    static class Man {
        int kind;
        int v;
        int knows;
        int tired;
        int[] row = {0, 0, 0, 0};
    }

    static class Sack {
        int matters;
        int goods;
        int state;
        int to = -5;
    }

    static class World {
        List<Man> men = new ArrayList<>();
        List<Sack> sacks = new ArrayList<>();
        int hour;
        List<int[]> heard = new ArrayList<>();
        List<int[]> plan = new ArrayList<>();
        List<int[]> book = new ArrayList<>();
        String border;

        World twin() {
            World w = new World();
            for (Man m : men) {
                Man t = new Man();
                t.kind = m.kind;
                t.v = m.v;
                t.knows = m.knows;
                t.tired = m.tired;
                t.row = m.row.clone();
                w.men.add(t);
            }
            for (Sack s : sacks) {
                Sack t = new Sack();
                t.matters = s.matters;
                t.goods = s.goods;
                t.state = s.state;
                t.to = s.to;
                w.sacks.add(t);
            }
            w.hour = hour;
            w.heard.addAll(heard);
            w.plan.addAll(plan);
            w.book.addAll(book);
            w.border = border;
            return w;
        }
    }

    World w = new World();
    World image;
    int borders;
    StringBuilder text = new StringBuilder();
    Object[] tapes = new Object[6];
    List<Integer> trace = new ArrayList<>();

    boolean man(int p) {
        return 0 <= p && p < w.men.size();
    }

    boolean sackIs(int q) {
        return 0 <= q && q < w.sacks.size();
    }

    // ---- the text: an automaton with a stack of what is open

    static int fault(String t) {
        StringBuilder open = new StringBuilder();
        int clauses = 0;
        String state = "clause";
        String word = "";
        for (int i = 0; i <= t.length(); i++) {
            int c = i < t.length() ? t.charAt(i) : -1;
            boolean digit = c >= '0' && c <= '9';
            switch (state) {
                case "clause":
                    word = c == 'k' ? "keen " : c == 'd' ? "dull " : c == 'r' ? "rest " : "";
                    if (word.isEmpty() || clauses == 10) {
                        return i;
                    }
                    clauses++;
                    state = "word1";
                    break;
                case "word1": case "word2": case "word3": case "word4": {
                    int at = state.charAt(4) - '0';
                    if (c != word.charAt(at)) {
                        return i;
                    }
                    state = at == 4 ? "worth" : "word" + (at + 1);
                    break;
                }
                case "worth":
                    if (!digit) {
                        return i;
                    }
                    state = "worth2";
                    break;
                case "worth2":
                    if (digit) {
                        state = "worth3";
                        break;
                    }
                    // falls through
                case "worth3":
                    if (word.equals("rest ")) {
                        if (c == -1) {
                            return -1;
                        }
                        if (c != ';' || clauses == 10) {
                            return i;
                        }
                        state = "clause";
                    } else {
                        if (c != ' ') {
                            return i;
                        }
                        state = "thing";
                    }
                    break;
                case "thing":
                    if (c == '!' || c == '(') {
                        if (open.length() == 4) {
                            return i;
                        }
                        open.append((char) c);
                    } else if (c >= 0 && "pkvtnh".indexOf(c) >= 0) {
                        state = "sign";
                    } else {
                        return i;
                    }
                    break;
                case "sign":
                    if (c != '<' && c != '=' && c != '>') {
                        return i;
                    }
                    state = "number";
                    break;
                case "number":
                    if (!digit) {
                        return i;
                    }
                    state = "number2";
                    break;
                case "number2":
                    if (digit) {
                        state = "number3";
                        break;
                    }
                    // falls through
                case "number3": case "closed":
                    while (open.length() > 0 && open.charAt(open.length() - 1) == '!') {
                        open.setLength(open.length() - 1);
                    }
                    if (c == '|' || c == '&') {
                        state = "thing";
                    } else if (c == ')' && open.length() > 0) {
                        open.setLength(open.length() - 1);
                        state = "closed";
                    } else if (c == -1 && open.length() == 0) {
                        return -1;
                    } else if (c == ';' && open.length() == 0 && clauses < 10) {
                        state = "clause";
                    } else {
                        return i;
                    }
                    break;
                default:
                    throw new IllegalStateException(state);
            }
        }
        throw new IllegalStateException("no end");
    }

    // ---- what a text that is a BORDER means: it is cut at its signs anew each time

    static int topPlace(String e, char sign) {
        int depth = 0;
        for (int i = e.length() - 1; i >= 0; i--) {
            char c = e.charAt(i);
            depth += c == ')' ? 1 : c == '(' ? -1 : 0;
            if (depth == 0 && c == sign) {
                return i;
            }
        }
        return -1;
    }

    static boolean means(String e, int[] facts) {
        int cut = topPlace(e, '|');
        if (cut >= 0) {
            return means(e.substring(0, cut), facts) | means(e.substring(cut + 1), facts);
        }
        cut = topPlace(e, '&');
        if (cut >= 0) {
            return means(e.substring(0, cut), facts) & means(e.substring(cut + 1), facts);
        }
        if (e.charAt(0) == '!') {
            return !means(e.substring(1), facts);
        }
        if (e.charAt(0) == '(') {
            return means(e.substring(1, e.length() - 1), facts);
        }
        int fact = facts["pkvtnh".indexOf(e.charAt(0))];
        int number = Integer.parseInt(e.substring(2));
        char sign = e.charAt(1);
        return sign == '<' ? fact < number : sign == '=' ? fact == number : fact > number;
    }

    int bonus(World in, int p, int n) {
        if (in.border == null) {
            return 0;
        }
        Man m = in.men.get(p);
        int[] facts = {p, m.kind, m.v, m.tired / 10, n, in.hour % 10};
        int sum = 0;
        for (String clause : in.border.split(";")) {
            String[] parts = clause.split(" ");
            if (parts[0].equals("keen") && means(parts[2], facts)) {
                sum += Integer.parseInt(parts[1]);
            }
            if (parts[0].equals("dull") && means(parts[2], facts)) {
                sum -= Integer.parseInt(parts[1]);
            }
        }
        return sum;
    }

    int rest(World in) {
        int rest = 5;
        if (in.border != null) {
            for (String clause : in.border.split(";")) {
                if (clause.startsWith("rest ")) {
                    rest = Integer.parseInt(clause.substring(5));
                }
            }
        }
        return rest;
    }

    int wit(World in, int p, int matters) {
        Man m = in.men.get(p);
        int n = 0;
        int sum = 0;
        for (int i = 0; i < 12; i++) {
            if ((matters >> i & 1) == 1) {
                n++;
                sum += (m.knows >> i & 1) == 1 ? 2 : -1;
            }
        }
        sum += bonus(in, p, n) - m.tired / 10;
        int simple = sum / 2 + 1;
        int lawyer = n < 2 ? 0 : sum;
        switch (m.kind) {
            case 0: return sum;
            case 1: return sum + m.v;
            case 2: return simple;
            case 3: return lawyer;
            case 4: return in.hour % 3 == 0 ? sum + m.v + 3 : sum + m.v;
            case 5: return m.tired >= 30 ? simple - 4 : simple;
            default: return lawyer + m.row[n % 4] - 4;
        }
    }

    boolean canAnswer(World in, int p, int matters) {
        return wit(in, p, matters) > 0;
    }

    void ask(World in, int q, int p) {
        Sack s = in.sacks.get(q);
        Man m = in.men.get(p);
        if (s.state != 0) {
            return;
        }
        if (canAnswer(in, p, s.matters)) {
            s.state = 1;
            m.tired = Math.min(99, m.tired + 10);
        } else {
            s.state = 2;
            for (int i = 0; i < 12; i++) {
                if ((s.matters >> i & 1) == 1 && (m.knows >> i & 1) == 0) {
                    m.knows |= 1 << i;
                    break;
                }
            }
        }
    }

    void hour(World in) {
        for (int q = 0; q < in.sacks.size(); q++) {
            if (in.sacks.get(q).state == 0 && in.sacks.get(q).to >= 0) {
                ask(in, q, in.sacks.get(q).to);
            }
        }
        for (Man m : in.men) {
            m.tired = Math.max(0, m.tired - rest(in));
        }
        in.hour++;
    }

    static int through(World in) {
        int sum = 0;
        for (Sack s : in.sacks) {
            sum += s.state == 1 ? s.goods : 0;
        }
        return sum;
    }

    static int fined(World in) {
        int sum = 0;
        for (Sack s : in.sacks) {
            sum += s.state == 2 ? 1 : 0;
        }
        return sum;
    }

    // ---- what is asked

    int[] bestRow;
    int bestGoods;

    void load(int q, int[] row, int goods) {
        if (q == w.sacks.size()) {
            if (goods > bestGoods) {
                bestGoods = goods;
                bestRow = row.clone();
            }
            return;
        }
        for (int p = 0; p < w.men.size(); p++) {
            boolean free = w.sacks.get(q).state == 0 && canAnswer(w, p, w.sacks.get(q).matters);
            for (int i = 0; i < q; i++) {
                free &= row[i] != p;
            }
            if (free) {
                row[q] = p;
                load(q + 1, row, goods + w.sacks.get(q).goods);
            }
        }
        row[q] = 9;
        load(q + 1, row, goods);
    }

    int load(int q) {
        bestGoods = -1;
        load(0, new int[w.sacks.size()], 0);
        return q < 0 ? bestGoods : bestRow[q] == 9 ? -5 : bestRow[q];
    }

    /** The set with the fewest of those told, of several the least. */
    static int fewest(boolean[] told) {
        for (int n = 0; n <= 12; n++) {
            for (int set = 0; set < told.length; set++) {
                if (told[set] && Integer.bitCount(set) == n) {
                    return set;
                }
            }
        }
        return -5;
    }

    int enough() {
        boolean[] told = new boolean[1 << w.men.size()];
        for (int set = 0; set < told.length; set++) {
            told[set] = true;
            for (Sack s : w.sacks) {
                boolean one = s.state != 0;
                for (int p = 0; p < w.men.size(); p++) {
                    one |= (set >> p & 1) == 1 && canAnswer(w, p, s.matters);
                }
                told[set] &= one;
            }
        }
        return fewest(told);
    }

    int study(int p, int q) {
        Man m = w.men.get(p);
        int was = m.knows;
        boolean[] told = new boolean[4096];
        for (int set = 0; set < 4096; set++) {
            if ((set & was) == 0) {
                m.knows = was | set;
                told[set] = canAnswer(w, p, w.sacks.get(q).matters);
            }
        }
        m.knows = was;
        return fewest(told);
    }

    int stumps(int p) {
        boolean[] told = new boolean[4096];
        for (int set = 1; set < 4096; set++) {
            told[set] = !canAnswer(w, p, set);
        }
        return fewest(told);
    }

    boolean heardIsSo(int p) {
        for (int[] row : w.heard) {
            if (row[0] == p && canAnswer(w, p, w.sacks.get(row[1]).matters) != (row[2] == 1)) {
                return false;
            }
        }
        return true;
    }

    int knew(int p, boolean least) {
        Man m = w.men.get(p);
        int was = m.knows;
        int count = 0;
        int first = -5;
        for (int set = 0; set < 4096; set++) {
            m.knows = set;
            if (heardIsSo(p)) {
                first = count == 0 ? set : first;
                count++;
            }
        }
        m.knows = was;
        return least ? first : count;
    }

    int can(int p, boolean least) {
        Man m = w.men.get(p);
        int was = m.v;
        int count = 0;
        int first = -5;
        for (int v = 0; v <= 9; v++) {
            m.v = v;
            if (heardIsSo(p)) {
                first = count == 0 ? v : first;
                count++;
            }
        }
        m.v = was;
        return least ? first : count;
    }

    static long part(int above, int below, int part) {
        for (int d = 60; d > 1; d--) {
            if (above % d == 0 && below % d == 0) {
                return (part == 0 ? above : below) / d;
            }
        }
        return part == 0 ? above : below;
    }

    // ---- acts: classes of Java's own

    class Any {
        int v;
        int i;

        int listens(int x) { trace.add(10); return x + i; }
        int nods(int x) { trace.add(11); return listens(x) - v; }
        int tells(int x) { trace.add(12); return nods(x) * 2; }
    }

    class Deep extends Any {
        int nods(int x) { trace.add(20); return super.nods(x) ^ 6; }
    }

    class Simple extends Any {
        int listens(int x) { trace.add(30); return super.listens(x * 3); }
    }

    class Lawyer extends Any {
        int tells(int x) { trace.add(40); return super.tells(x) + nods(1); }
    }

    class Shepherd extends Deep {
        int listens(int x) { trace.add(50); return -super.listens(x); }
        int nods(int x) { trace.add(51); return super.nods(x + 1); }
    }

    class Boy extends Simple {
        int tells(int x) { trace.add(60); return super.tells(x - i); }
    }

    class Told extends Lawyer {
        int nods(int x) { trace.add(70); return super.nods(x) + super.listens(2); }
        int listens(int x) { trace.add(71); return super.listens(x) ^ v; }
    }

    Any body(int kind) {
        switch (kind) {
            case 0: return new Any();
            case 1: return new Deep();
            case 2: return new Simple();
            case 3: return new Lawyer();
            case 4: return new Shepherd();
            case 5: return new Boy();
            default: return new Told();
        }
    }

    long act(int p, int act, int x) {
        trace.clear();
        if (!man(p) || act < 0 || act > 2) {
            return 0;
        }
        Any one = body(w.men.get(p).kind);
        one.v = w.men.get(p).v;
        one.i = p;
        return act == 0 ? one.listens(x) : act == 1 ? one.nods(x) : one.tells(x);
    }

    // ---- tapes: Java's own arrays

    static int sizeOf(Object tape) {
        return java.lang.reflect.Array.getLength(tape);
    }

    long item(int t, int i, long v) {
        if (t < 0 || t > 5) {
            return -1;
        }
        if (tapes[t] == null) {
            return -11;
        }
        if (i < 0 || i >= sizeOf(tapes[t])) {
            return -13;
        }
        if (tapes[t] instanceof byte[]) {
            ((byte[]) tapes[t])[i] = (byte) v;
        } else if (tapes[t] instanceof short[]) {
            ((short[]) tapes[t])[i] = (short) v;
        } else if (tapes[t] instanceof int[]) {
            ((int[]) tapes[t])[i] = (int) v;
        } else if (tapes[t] instanceof long[]) {
            ((long[]) tapes[t])[i] = v;
        } else {
            ((boolean[]) tapes[t])[i] = v != 0;
        }
        return 1;
    }

    long read(int t, int i) {
        if (t < 0 || t > 5 || tapes[t] == null || i < 0 || i >= sizeOf(tapes[t])) {
            return NO;
        }
        if (tapes[t] instanceof boolean[]) {
            return ((boolean[]) tapes[t])[i] ? 1 : 0;
        }
        return java.lang.reflect.Array.getLong(tapes[t], i);
    }

    long tape(int t, int sort, int n) {
        if (t < 0 || t > 5) {
            return -1;
        }
        if (sort < -1 || sort > 4) {
            return -2;
        }
        if (sort != -1 && n > 60) {
            return -2;
        }
        if (sort != -1 && n < 0) {
            return -14;
        }
        tapes[t] = sort == -1 ? null : sort == 0 ? new byte[n] : sort == 1 ? new short[n]
            : sort == 2 ? new int[n] : sort == 3 ? (Object) new long[n] : new boolean[n];
        return 1;
    }

    long shift(int t, int i, int other, int j, int n) {
        if (t < 0 || t > 5 || other < 0 || other > 5) {
            return -1;
        }
        try {
            System.arraycopy(tapes[t], i, tapes[other], j, n);
            return n;
        } catch (NullPointerException e) {
            return -11;
        } catch (ArrayStoreException e) {
            return -12;
        } catch (IndexOutOfBoundsException e) {
            return -13;
        }
    }

    long judge(int t, int i) {
        if (t < 0 || t > 5) {
            return -1;
        }
        if (tapes[t] != null && !(tapes[t] instanceof short[])) {
            return -12;
        }
        for (int p = 0; p < w.men.size(); p++) {
            long place = (long) i + p;
            if (tapes[t] == null || i < 0 || place >= sizeOf(tapes[t])) {
                return 100 + p;
            }
            if (((short[]) tapes[t])[(int) place] != w.men.get(p).knows) {
                return p;
            }
        }
        return -5;
    }

    // ---- the face

    static boolean in(int n, int least, int most) {
        return least <= n && n <= most;
    }

    long guard(int kind, int v, int knows) {
        if (!in(kind, 0, 6)) {
            return -1;
        }
        if (!in(v, 0, 9) || !in(knows, 0, 4095)) {
            return -2;
        }
        if (w.men.size() == 6) {
            return -4;
        }
        Man m = new Man();
        m.kind = kind;
        m.v = v;
        m.knows = knows;
        w.men.add(m);
        return w.men.size() - 1;
    }

    long of(int p, int what) {
        if (!man(p)) {
            return -10001;
        }
        Man m = w.men.get(p);
        if (in(what, 0, 6)) {
            switch (what) {
                case 0: return m.kind;
                case 1: return m.v;
                case 2: return m.knows;
                case 3: return m.tired;
                case 4: return stumps(p);
                default: return knew(p, what == 6);
            }
        }
        if (in(what, 10, 15) && sackIs(what - 10)) {
            return wit(w, p, w.sacks.get(what - 10).matters);
        }
        if (in(what, 20, 25) && sackIs(what - 20)) {
            return study(p, what - 20);
        }
        return -10001;
    }

    long question(int matters, int goods) {
        if (!in(matters, 0, 4095) || !in(goods, 0, 99)) {
            return -2;
        }
        if (w.sacks.size() == 6) {
            return -4;
        }
        Sack s = new Sack();
        s.matters = matters;
        s.goods = goods;
        w.sacks.add(s);
        return w.sacks.size() - 1;
    }

    long sack(int q, int what) {
        if (!sackIs(q) || !in(what, 0, 3)) {
            return -1;
        }
        Sack s = w.sacks.get(q);
        return new int[] {s.matters, s.goods, s.state, s.to}[what];
    }

    long know(int p, int matters) {
        if (!man(p)) {
            return -1;
        }
        if (!in(matters, 0, 4095)) {
            return -2;
        }
        int was = w.men.get(p).knows;
        w.men.get(p).knows = matters;
        return was;
    }

    long tire(int p, int n) {
        if (!man(p)) {
            return -1;
        }
        if (!in(n, 0, 99)) {
            return -2;
        }
        int was = w.men.get(p).tired;
        w.men.get(p).tired = n;
        return was;
    }

    long bring(int q, int p) {
        if (!sackIs(q) || p != -1 && !man(p)) {
            return -1;
        }
        int was = w.sacks.get(q).to;
        w.sacks.get(q).to = p == -1 ? -5 : p;
        return was;
    }

    long ask(int q, int p) {
        if (!sackIs(q) || !man(p)) {
            return -1;
        }
        if (w.sacks.get(q).state != 0) {
            return -3;
        }
        ask(w, q, p);
        return w.sacks.get(q).state;
    }

    long row(int p, int part, int n) {
        if (!man(p) || !in(part, 0, 3)) {
            return -1;
        }
        if (!in(n, 0, 9)) {
            return -2;
        }
        if (w.men.get(p).kind != 6) {
            return -3;
        }
        int was = w.men.get(p).row[part];
        w.men.get(p).row[part] = n;
        return was;
    }

    long feed(int sign) {
        if (!in(sign, 0, 127)) {
            return -2;
        }
        if (text.length() == 100) {
            return -4;
        }
        return text.append((char) sign).length();
    }

    long border() {
        if (borders == 6) {
            return -4;
        }
        String t = text.toString();
        text.setLength(0);
        int fault = fault(t);
        if (fault >= 0) {
            return -10 - fault;
        }
        w.border = t;
        return borders++;
    }

    long told(int what) {
        switch (what) {
            case 0: return w.hour;
            case 1: return rest(w);
            case 2: return through(w);
            case 3: return fined(w);
            case 4: {
                int bits = 0;
                for (int q = 0; q < w.sacks.size(); q++) {
                    bits += w.sacks.get(q).state == 0 ? 1 << q : 0;
                }
                return bits;
            }
            case 5: return enough();
            case 6: return load(-1);
            default: return in(what, 10, 15) && sackIs(what - 10) ? load(what - 10) : -1;
        }
    }

    long pass(int n) {
        if (!in(n, 0, 60)) {
            return -2;
        }
        if (w.hour + n > 9999) {
            return -3;
        }
        for (int i = 0; i < n; i++) {
            hour(w);
        }
        return w.hour;
    }

    long on(int n, int what) {
        boolean is = what == 0 || in(what, 10, 15) && man(what - 10) || in(what, 20, 25) && man(what - 20)
            || in(what, 30, 35) && sackIs(what - 30);
        if (!is) {
            return -1;
        }
        if (!in(n, 0, 60)) {
            return -2;
        }
        World t = w.twin();
        for (int i = 0; i < n; i++) {
            hour(t);
        }
        return what == 0 ? through(t) : what < 20 ? t.men.get(what - 10).knows
            : what < 30 ? t.men.get(what - 20).tired : t.sacks.get(what - 30).state;
    }

    long hear(int p, int q, boolean can) {
        if (p == -1) {
            w.heard.clear();
            return 0;
        }
        if (!man(p) || !sackIs(q)) {
            return -1;
        }
        if (w.heard.size() == 5) {
            return -4;
        }
        w.heard.add(new int[] {p, q, can ? 1 : 0});
        return w.heard.size();
    }

    long can(int p, int what) {
        return !man(p) || !in(what, 0, 1) ? -1 : can(p, what == 1);
    }

    long odds(int p, int q, int part) {
        if (!man(p) || !sackIs(q) || !in(part, 0, 1)) {
            return NO;
        }
        int count = 0;
        for (int i = 0; i < 12; i++) {
            count += canAnswer(w, p, w.sacks.get(q).matters | 1 << i) ? 1 : 0;
        }
        return part(count, 12, part);
    }

    long mean(int part) {
        if (w.men.isEmpty() || !in(part, 0, 1)) {
            return NO;
        }
        int sum = 0;
        for (Man m : w.men) {
            sum += Integer.bitCount(m.knows);
        }
        return part(sum, w.men.size(), part);
    }

    long plan(int what, int n) {
        if (what == -1) {
            w.plan.clear();
            return 0;
        }
        boolean is = what == 0 || what == 1 && n >= 0 && sackIs(n / 10) && man(n % 10) || what == 2 && man(n)
            || what == 3 && sackIs(n);
        if (!is) {
            return -1;
        }
        if (w.plan.size() == 10) {
            return -4;
        }
        w.plan.add(new int[] {what, n});
        return w.plan.size();
    }

    long ends(int what) {
        if (!in(what, 0, 1)) {
            return -1;
        }
        World t = w.twin();
        for (int[] row : w.plan) {
            switch (row[0]) {
                case 0: hour(t); break;
                case 1: ask(t, row[1] / 10, row[1] % 10); break;
                case 2: t.men.get(row[1]).tired = 0; break;
                default: t.sacks.get(row[1]).state = 0; break;
            }
        }
        return what == 0 ? through(t) : fined(t);
    }

    long book(int q, int goods) {
        if (q == -1) {
            w.book.clear();
            return 0;
        }
        if (!sackIs(q)) {
            return -1;
        }
        if (!in(goods, 0, 99)) {
            return -2;
        }
        if (w.book.size() == 8) {
            return -4;
        }
        w.book.add(new int[] {q, goods});
        return w.book.size();
    }

    long looked() {
        for (int i = 0; i < w.book.size(); i++) {
            if (w.sacks.get(w.book.get(i)[0]).goods != w.book.get(i)[1]) {
                return i;
            }
        }
        return -5;
    }

    long image() {
        image = w.twin();
        return w.men.size();
    }

    long undo() {
        if (image == null) {
            return -3;
        }
        w = image.twin();
        return w.men.size();
    }

    long trace(int i) {
        return in(i, 0, Math.min(20, trace.size()) - 1) ? trace.get(i) : -1;
    }

    long taken(int p, int k) {
        if (!in(k, 0, 6)) {
            return -2;
        }
        if (!man(p)) {
            return -11;
        }
        int kind = w.men.get(p).kind;
        return body(k).getClass().isInstance(body(kind)) ? kind : -12;
    }

    long count(int what) {
        if (!in(what, 0, 7)) {
            return -2;
        }
        return new int[] {w.men.size(), w.sacks.size(), borders, w.heard.size(), w.plan.size(), w.book.size(),
            text.length(), trace.size()}[what];
    }
}
