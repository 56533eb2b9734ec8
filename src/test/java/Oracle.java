import java.util.ArrayList;
import java.util.Arrays;
import java.util.HashSet;
import java.util.List;
import java.util.Set;

/**
 * The document told again in the plainest way: classes for the kinds, the host's own exceptions,
 * and all fillings tried one by one. Slow, and written apart from the program.
 */
final class Oracle {
    static class Man {
        int own, number, chance, asked;
        Integer[] taught = new Integer[6];
        boolean[] barred = new boolean[6];

        int keeps() { return 2; }
        boolean able(Oracle o, int q) {
            return q == own || taught[q] != null && o.year - taught[q] <= keeps();
        }
        int counts(Oracle o) {
            int n = 0;
            for (int q = 0; q < o.posts.size(); q++) if (o.can(this, q)) n++;
            return n;
        }
    }
    static class Hand extends Man {
        boolean able(Oracle o, int q) { return super.able(o, q) || q == own + 1 || q == own - 1; }
        int counts(Oracle o) { return Math.min(3, super.counts(o)); }
    }
    static class Clerk extends Man {
        int keeps() { return super.keeps() + number; }
    }
    static class Porter extends Hand {
        int keeps() { return super.keeps() + 1; }
        boolean able(Oracle o, int q) { return super.able(o, q) || o.posts.get(q)[0] == 0; }
        int counts(Oracle o) { return super.counts(o) + 1; }
    }
    static class Chief extends Clerk {
        boolean able(Oracle o, int q) { return super.able(o, q) || o.posts.get(q)[1] > 50; }
        int counts(Oracle o) { return 2 * super.counts(o); }
    }
    static class Newcomer extends Man {
        int keeps() { return super.keeps() - 1; }
        int counts(Oracle o) { return super.counts(o) / 2 + super.counts(o) % 2; }
    }
    static final List<Class<? extends Man>> KINDS =
            List.of(Man.class, Hand.class, Clerk.class, Porter.class, Chief.class, Newcomer.class);

    interface Expr { int of(int[] names); }
    @SuppressWarnings("serial")
    static final class Fault extends RuntimeException {
        final int place;
        Fault(int place) { super(null, null, false, false); this.place = place; }
    }

    final List<int[]> posts = new ArrayList<>();
    final List<Man> men = new ArrayList<>();
    int year = 0;
    StringBuilder tape = new StringBuilder();
    final List<Expr[]> texts = new ArrayList<>();
    int rule = 0;
    final Object[] sheets = new Object[4];
    final Set<Integer> extra = new HashSet<>();

    Integer imageYear = null;
    int imageRule;
    List<Man> imageMen;

    Oracle() {
        texts.add(new Parser("well 5 + own * 5 - years * ( 1 - own ) ; cost 3 + value - number ; pay 10 ;").parse());
    }

    boolean can(Man m, int q) {
        return !m.barred[q] && (m.able(this, q) || extra.contains(men.indexOf(m) * 10 + q));
    }

    // ---- posts, people
    int post(int must, int value) {
        if (must != 0 && must != 1 || value < 0 || value > 99) return -2;
        if (posts.size() == 6) return -4;
        posts.add(new int[] {must, value});
        return posts.size() - 1;
    }
    static Man newMan(int kind) {
        switch (kind) {
            case 0: return new Man();
            case 1: return new Hand();
            case 2: return new Clerk();
            case 3: return new Porter();
            case 4: return new Chief();
            default: return new Newcomer();
        }
    }
    int person(int kind, int rest) {
        if (kind < 0 || kind > 5 || rest < 0 || rest / 100 >= posts.size()) return -2;
        if (men.size() == 7) return -4;
        Man m = newMan(kind);
        m.own = rest / 100;
        m.number = rest % 100 / 10;
        m.chance = rest % 10;
        men.add(m);
        return men.size() - 1;
    }
    int years(int n) {
        if (n < 1 || n > 9) return -2;
        if (year + n > 99) return -4;
        return year += n;
    }
    boolean noMan(int p) { return p < 0 || p >= men.size(); }
    boolean noPost(int q) { return q < 0 || q >= posts.size(); }
    int hadBy(Man m) { int n = 0; for (Integer t : m.taught) if (t != null) n++; return n; }
    int teach(int p, int q) {
        if (noMan(p) || noPost(q)) return -2;
        Man m = men.get(p);
        if (m.barred[q] || m.own == q) return -3;
        m.taught[q] = year;
        return hadBy(m);
    }
    int bar(int p, int q, int is) {
        if (noMan(p) || noPost(q) || is != 0 && is != 1) return -2;
        boolean was = men.get(p).barred[q];
        men.get(p).barred[q] = is == 1;
        return was ? 1 : 0;
    }
    int told(int p, int q, int what) {
        if (noMan(p)) return -5;
        Man m = men.get(p);
        if (what == 0) return KINDS.indexOf(m.getClass());
        if (what == 1) return m.own;
        if (what == 2) return m.number;
        if (what == 3) return m.chance;
        if (what == 4) return m.keeps();
        if (what == 5) return m.counts(this);
        if (what == 6) return m.asked;
        if (what < 0 || what > 9 || noPost(q)) return -5;
        if (what == 7) return can(m, q) ? 1 : 0;
        return what == 8 ? well(m, q) : cost(m, q);
    }
    int value(int part, Man m, int q, int low, int high) {
        int years = m.taught[q] == null ? 99 : year - m.taught[q];
        int[] names = {m.own == q ? 1 : 0, m.number, years, posts.get(q)[0], posts.get(q)[1], hadBy(m)};
        int v = texts.get(rule)[part].of(names);
        return v < low ? low : v > high ? high : v;
    }
    int well(Man m, int q) { return value(0, m, q, 0, 99); }
    int cost(Man m, int q) { return value(1, m, q, 1, 99); }

    // ---- texts
    int feed(int n, long bytes) {
        if (n < 1 || n > 8) return -2;
        if (tape.length() + n > 160) return -4;
        for (int i = 0; i < n; i++) { tape.append((char) (bytes & 255)); bytes >>= 8; }
        return tape.length();
    }
    int text() {
        if (texts.size() == 6) return -4;
        String t = tape.toString();
        tape = new StringBuilder();
        try {
            texts.add(new Parser(t).parse());
            return texts.size() - 1;
        } catch (Fault f) {
            return -100 - f.place;
        }
    }
    int force(int text) {
        if (text < 0 || text >= texts.size()) return -2;
        int was = rule;
        rule = text;
        return was;
    }

    static final class Parser {
        static final List<String> NAMES = List.of("own", "number", "years", "must", "value", "taught");
        final String t;
        int at = 0;
        int open = 0;
        Parser(String t) { this.t = t; }

        void blanks() { while (at < t.length() && (t.charAt(at) == ' ' || t.charAt(at) == '\n')) at++; }
        /** The token ahead, "" at the end, "?" for none such. */
        String peek() {
            blanks();
            if (at == t.length()) return "";
            int e = at;
            while (e < t.length() && t.charAt(e) >= 'a' && t.charAt(e) <= 'z') e++;
            if (e > at) return t.substring(at, e);
            while (e < t.length() && t.charAt(e) >= '0' && t.charAt(e) <= '9') e++;
            if (e > at) return e - at > 4 ? "?" : t.substring(at, e);
            return "();+-*<=".indexOf(t.charAt(at)) >= 0 ? t.substring(at, at + 1) : "?";
        }
        boolean eat(String s) {
            if (!peek().equals(s)) return false;
            at += s.length();
            return true;
        }
        void want(String s) { if (!eat(s)) throw new Fault(at); }
        Expr[] parse() {
            Expr[] parts = new Expr[3];
            int i = 0;
            for (String key : List.of("well", "cost", "pay")) {
                want(key);
                parts[i++] = or();
                want(";");
            }
            want("");
            return parts;
        }
        Expr or() {
            Expr left = and();
            while (eat("or")) {
                Expr a = left, b = and();
                left = n -> (a.of(n) != 0) | (b.of(n) != 0) ? 1 : 0;
            }
            return left;
        }
        Expr and() {
            Expr left = not();
            while (eat("and")) {
                Expr a = left, b = not();
                left = n -> (a.of(n) != 0) & (b.of(n) != 0) ? 1 : 0;
            }
            return left;
        }
        void open() {
            if (open == 5) throw new Fault(at);
            open++;
        }
        Expr not() {
            if (peek().equals("not")) {
                open();
                eat("not");
                Expr a = not();
                open--;
                return n -> a.of(n) == 0 ? 1 : 0;
            }
            Expr a = sum();
            if (eat("<")) { Expr b = sum(); return n -> a.of(n) < b.of(n) ? 1 : 0; }
            if (eat("=")) { Expr b = sum(); return n -> a.of(n) == b.of(n) ? 1 : 0; }
            return a;
        }
        Expr sum() {
            Expr left = term();
            for (;;) {
                Expr a = left;
                if (eat("+")) { Expr b = term(); left = n -> a.of(n) + b.of(n); }
                else if (eat("-")) { Expr b = term(); left = n -> a.of(n) - b.of(n); }
                else return left;
            }
        }
        Expr term() {
            Expr left = one();
            while (eat("*")) { Expr a = left, b = one(); left = n -> a.of(n) * b.of(n); }
            return left;
        }
        Expr one() {
            String s = peek();
            if (s.isEmpty()) throw new Fault(at);
            if (s.equals("-")) {
                open();
                eat("-");
                Expr a = one();
                open--;
                return n -> -a.of(n);
            }
            if (s.equals("(")) {
                open();
                eat("(");
                Expr a = or();
                want(")");
                open--;
                return a;
            }
            int name = NAMES.indexOf(s);
            if (name >= 0) { eat(s); return n -> n[name]; }
            if (Character.isDigit(s.charAt(0))) { eat(s); int v = Integer.parseInt(s); return n -> v; }
            throw new Fault(at);
        }
    }

    // ---- fillings
    int[] bestAt;
    int bestWorth;
    void tryAll(int q, int used, int worth, int[] at) {
        if (q == posts.size()) {
            if (worth > bestWorth) { bestWorth = worth; bestAt = at.clone(); }
            return;
        }
        if (posts.get(q)[0] == 0) { at[q] = -1; tryAll(q + 1, used, worth, at); }
        for (int p = 0; p < men.size(); p++) {
            if ((used >> p & 1) == 1 || !can(men.get(p), q)) continue;
            at[q] = p;
            tryAll(q + 1, used | 1 << p, worth + well(men.get(p), q) * posts.get(q)[1], at);
        }
    }
    int bestWithout(int away) {
        bestWorth = -1;
        bestAt = null;
        tryAll(0, away, 0, new int[posts.size()]);
        return bestWorth;
    }
    boolean fills(int q, int used) {
        if (q == posts.size()) return true;
        if (posts.get(q)[0] == 0) return fills(q + 1, used);
        for (int p = 0; p < men.size(); p++)
            if ((used >> p & 1) == 0 && can(men.get(p), q) && fills(q + 1, used | 1 << p)) return true;
        return false;
    }
    boolean badSet(int away) { return away < 0 || away >= 1 << men.size(); }
    int fill(int away, int q) {
        if (badSet(away) || q < -1 || q >= posts.size()) return -2;
        int worth = bestWithout(away);
        if (worth < 0) return -3;
        return q == -1 ? worth : bestAt[q];
    }
    int few(int away) {
        if (badSet(away)) return -2;
        for (int size = 1; size <= 6; size++)
            for (int set = 1; set < 1 << posts.size(); set++) {
                if (Integer.bitCount(set) != size) continue;
                boolean allMust = true;
                for (int q = 0; q < posts.size(); q++) if ((set >> q & 1) == 1 && posts.get(q)[0] == 0) allMust = false;
                if (!allMust) continue;
                int there = 0;
                for (int p = 0; p < men.size(); p++) {
                    if ((away >> p & 1) == 1) continue;
                    boolean some = false;
                    for (int q = 0; q < posts.size(); q++) if ((set >> q & 1) == 1 && can(men.get(p), q)) some = true;
                    if (some) there++;
                }
                if (there < size) return set;
            }
        return -1;
    }
    boolean bears(int many) {
        for (int away = 0; away < 1 << men.size(); away++)
            if (Integer.bitCount(away) == many && !fills(0, away)) return false;
        return true;
    }
    int holds(int many) {
        if (many < 0 || many > 7) return -2;
        return bears(many) ? 1 : 0;
    }
    int worst(int many, int what) {
        if (many < 0 || many > 7 || what != 0 && what != 1) return -2;
        int found = -1, least = Integer.MAX_VALUE;
        for (int away = 0; away < 1 << men.size(); away++) {
            if (Integer.bitCount(away) != many) continue;
            if (what == 0 && !fills(0, away)) return away;
            if (what == 1) {
                int worth = bestWithout(away);
                if (worth >= 0 && worth < least) { least = worth; found = away; }
            }
        }
        return found;
    }
    int lessons(int many, int what) {
        if (many < 0 || many > 2 || what < 0 || what > 2) return -2;
        if (bears(many)) return 0;
        List<int[]> all = new ArrayList<>();
        for (int p = 0; p < men.size(); p++)
            for (int q = 0; q < posts.size(); q++)
                if (!men.get(p).barred[q] && !can(men.get(p), q)) all.add(new int[] {p * 10 + q, cost(men.get(p), q)});
        int[] found = null;
        for (int[] a : all) {
            extra.add(a[0]);
            if (bears(many) && (found == null || a[1] < found[1])) found = new int[] {1, a[1], a[0]};
            extra.clear();
        }
        if (found == null)
            for (int i = 0; i < all.size(); i++)
                for (int j = i + 1; j < all.size(); j++) {
                    int[] a = all.get(i), b = all.get(j);
                    if (found != null && a[1] + b[1] >= found[1]) continue;
                    extra.addAll(List.of(a[0], b[0]));
                    if (bears(many)) found = new int[] {2, a[1] + b[1], a[0] * 100 + b[0]};
                    extra.clear();
                }
        return found == null ? -1 : found[what];
    }
    int ring() {
        for (int p = 0; p < men.size(); p++) {
            Man next = p == men.size() - 1 ? men.get(0) : men.get(p + 1);
            extra.add(p * 10 + next.own);
        }
        int k = -1;
        while (k < men.size() && bears(k + 1)) k++;
        extra.clear();
        return Math.min(k, men.size());
    }
    long sure(int part) {
        if (part != 0 && part != 1) return -4611686018427387904L;
        long above = 0, below = 1;
        for (int p = 0; p < men.size(); p++) below *= 10;
        for (int away = 0; away < 1 << men.size(); away++) {
            if (!fills(0, away)) continue;
            long w = 1;
            for (int p = 0; p < men.size(); p++) w *= (away >> p & 1) == 1 ? men.get(p).chance : 10 - men.get(p).chance;
            above += w;
        }
        for (int d : new int[] {2, 5})
            while (above % d == 0 && below % d == 0 && below > 1) { above /= d; below /= d; }
        return part == 0 ? above : below;
    }

    // ---- done, paid
    int done(int away) {
        if (badSet(away)) return -2;
        if (bestWithout(away) < 0) return -3;
        int n = 0;
        for (int q = 0; q < posts.size(); q++) {
            if (bestAt[q] < 0) continue;
            Man m = men.get(bestAt[q]);
            if (m.taught[q] != null) m.taught[q] = year;
            if (m.own != q) m.asked++;
            n++;
        }
        return n;
    }
    int even() {
        return men.isEmpty() ? -1 : men.stream().mapToInt(m -> m.asked).max().getAsInt()
                - men.stream().mapToInt(m -> m.asked).min().getAsInt();
    }
    int pay(int p) {
        if (p == -1) {
            int sum = 0;
            for (int i = 0; i < men.size(); i++) sum += pay(i);
            return sum;
        }
        if (noMan(p)) return -2;
        Man m = men.get(p);
        return value(2, m, m.own, 0, 999) * m.counts(this);
    }
    int first() {
        List<int[]> all = new ArrayList<>();
        for (int p = 0; p < men.size(); p++)
            for (int q = 0; q < posts.size(); q++) {
                Man m = men.get(p);
                if (m.taught[q] == null || m.barred[q]) continue;
                int more = m.keeps() - (year - m.taught[q]);
                if (more >= 0) all.add(new int[] {more, p * 10 + q});
            }
        all.sort((a, b) -> a[0] != b[0] ? Integer.compare(a[0], b[0]) : Integer.compare(a[1], b[1]));
        return all.isEmpty() ? -1 : all.get(0)[1];
    }
    static int sizeOf(Object row) { return java.lang.reflect.Array.getLength(row); }
    static int itemOf(Object row, int i) { return java.lang.reflect.Array.getInt(row, i); }
    int judge(int away, int sheet) {
        if (badSet(away) || sheet < 0 || sheet > 3) return -2;
        if (sheets[sheet] == null) return -11;
        if (sizeOf(sheets[sheet]) != posts.size()) return -2;
        Set<Integer> gone = new HashSet<>();
        for (int q = 0; q < posts.size(); q++) {
            int who = itemOf(sheets[sheet], q);
            if (who == -1) {
                if (posts.get(q)[0] == 1) return 30 + q;
                continue;
            }
            if (noMan(who) || (away >> who & 1) == 1 || !gone.add(who)) return 10 + q;
            if (!can(men.get(who), q)) return 20 + q;
        }
        return -1;
    }
    int image() {
        imageYear = year;
        imageRule = rule;
        imageMen = new ArrayList<>();
        for (Man m : men) {
            Man c = new Man();
            c.taught = m.taught.clone();
            c.barred = m.barred.clone();
            c.asked = m.asked;
            imageMen.add(c);
        }
        return year;
    }
    int back() {
        if (imageYear == null) return -3;
        year = imageYear;
        rule = imageRule;
        for (int p = 0; p < imageMen.size(); p++) {
            men.get(p).taught = imageMen.get(p).taught.clone();
            men.get(p).barred = imageMen.get(p).barred.clone();
            men.get(p).asked = imageMen.get(p).asked;
        }
        return year;
    }
    int count(int what) {
        switch (what) {
            case 0: return posts.size();
            case 1: return men.size();
            case 2: return year;
            case 3: return texts.size();
            case 4: return tape.length();
            case 5: return rule;
            case 6: return (int) posts.stream().filter(q -> q[0] == 1).count();
            case 7: return men.stream().mapToInt(this::hadBy).sum();
            default: return -2;
        }
    }

    // ---- the host, by its own exceptions
    int sheet(int sheet, int sort, int n) {
        if (sheet < 0 || sheet > 3 || sort < -1 || sort > 2) return -2;
        if (sort != -1 && n > 40) return -2;
        try {
            sheets[sheet] = sort == -1 ? null : sort == 0 ? new byte[n] : sort == 1 ? new short[n] : (Object) new int[n];
            return 1;
        } catch (NegativeArraySizeException e) {
            return -14;
        }
    }
    int cell(int sheet, int i, int v) {
        if (sheet < 0 || sheet > 3) return -2;
        try {
            if (sheets[sheet] instanceof byte[]) ((byte[]) sheets[sheet])[i] = (byte) v;
            else if (sheets[sheet] instanceof short[]) ((short[]) sheets[sheet])[i] = (short) v;
            else ((int[]) sheets[sheet])[i] = v;
            return 1;
        } catch (NullPointerException e) {
            return -11;
        } catch (ArrayIndexOutOfBoundsException e) {
            return -12;
        }
    }
    int copy(int sheet, int i, int other, int j, int n) {
        if (sheet < 0 || sheet > 3 || other < 0 || other > 3) return -2;
        try {
            System.arraycopy(sheets[sheet], i, sheets[other], j, n);
            return n;
        } catch (NullPointerException e) {
            return -11;
        } catch (ArrayStoreException e) {
            return -13;
        } catch (ArrayIndexOutOfBoundsException e) {
            return -12;
        }
    }
    int people(int sheet, int sort, int from, int n) {
        if (sheet < 0 || sheet > 3 || sort < 0 || sort > 2 || n < 0 || n > 8) return -2;
        Object row = sheets[sheet];
        try {
            Object same = sort == 0 ? (byte[]) row : sort == 1 ? (short[]) row : (Object) (int[]) row;
            sizeOf(same);
            int came = 0;
            for (int k = 0; k < n; k++)
                if (person(itemOf(same, from + 2 * k), itemOf(same, from + 2 * k + 1)) >= 0) came++;
            return came;
        } catch (ClassCastException e) {
            return -13;
        } catch (NullPointerException e) {
            return -11;
        } catch (ArrayIndexOutOfBoundsException e) {
            return -12;
        }
    }
    int taken(int p, int k) {
        if (k < 0 || k > 5) return -2;
        if (noMan(p)) return -11;
        try {
            return KINDS.get(k).cast(men.get(p)).number;
        } catch (ClassCastException e) {
            return -13;
        }
    }

    @Override
    public String toString() {
        return "year " + year + " men " + men.size() + " posts " + Arrays.deepToString(posts.toArray());
    }
}
