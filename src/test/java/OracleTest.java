import java.util.ArrayList;
import java.util.List;
import java.util.Random;

/** Random runs of up to 512 calls, each answer against the oracle's; seeds are fixed. */
public final class OracleTest {
    private static final int RUNS = 1500;
    private static final int[] EDGES = {
        Integer.MIN_VALUE, Integer.MIN_VALUE + 1, -100, -2, -1, 7, 8, 9, 10, 39, 40, 41, 99, 100, 127, 128, 255, 256,
        599, 600, 699, 700, 32767, 32768, 65535, 65536, Integer.MAX_VALUE - 1, Integer.MAX_VALUE
    };

    private final Random random;
    private final PostsFilled x = new PostsFilled();
    private final Oracle o = new Oracle();
    private final List<String> calls = new ArrayList<>();
    private final Due due;
    private final int wildness;
    private int budget;

    private OracleTest(Due due, long seed) {
        this.due = due;
        random = new Random(seed);
        wildness = random.nextInt(3) == 0 ? 8 : 60;
        budget = 12;
    }

    private int wild(int n) {
        return random.nextInt(wildness) == 0 ? EDGES[random.nextInt(EDGES.length)] : n;
    }

    private int below(int n) {
        return wild(random.nextInt(n));
    }

    private int someone() {
        return below(Math.max(1, o.men.size()));
    }

    private int somePost() {
        return below(Math.max(1, o.posts.size()));
    }

    private int away() {
        int set = random.nextInt(1 << o.men.size());
        return wild(random.nextBoolean() ? set : set & random.nextInt(128));
    }

    private int rest() {
        return wild(100 * random.nextInt(Math.max(1, o.posts.size())) + random.nextInt(100));
    }

    private void check(String call, long got, long want) {
        calls.add(call + " -> " + got);
        due.is(call, got, want);
        if (got != want) {
            System.out.println(String.join("\n", calls));
        }
    }

    // ---- texts

    private String expr(int deep) {
        String[] joins = {" + ", "-", "*", " < ", "=", " and ", "\nor ", "+", " * "};
        String[] names = {"own", "number", "years", "must", "value", "taught"};
        int pick = random.nextInt(deep <= 0 ? 3 : 9);
        if (pick == 0) return Integer.toString(random.nextInt(random.nextInt(4) == 0 ? 10000 : 12));
        if (pick <= 2) return names[random.nextInt(6)];
        if (pick == 3) return "-" + expr(deep - 1);
        if (pick == 4) return "not " + expr(deep - 1);
        if (pick == 5) return "(" + expr(deep - 1) + ")";
        return expr(deep - 1) + joins[random.nextInt(joins.length)] + expr(deep - 1);
    }

    private String rule() {
        int deep = random.nextInt(6);
        String t = "well " + expr(deep) + ";cost " + expr(random.nextInt(4)) + " ; pay " + expr(random.nextInt(4)) + ";";
        StringBuilder s = new StringBuilder(t);
        for (int n = random.nextInt(3); n > 0 && random.nextInt(3) == 0; n--) {
            String signs = "();+-*<= 0123456789abcnotwelr\n\t#A{";
            char c = random.nextInt(9) == 0 ? (char) random.nextInt(256) : signs.charAt(random.nextInt(signs.length()));
            int at = random.nextInt(s.length());
            int how = random.nextInt(3);
            if (how == 0) s.insert(at, c);
            else if (how == 1) s.setCharAt(at, c);
            else s.deleteCharAt(at);
        }
        if (random.nextInt(9) == 0) s.setLength(random.nextInt(s.length() + 1));
        return s.length() > 160 ? s.substring(0, 160) : s.toString();
    }

    private void feedAll(String t) {
        for (int from = 0; from < t.length(); ) {
            int n = Math.min(1 + random.nextInt(8), t.length() - from);
            long bytes = random.nextLong();
            for (int i = n - 1; i >= 0; i--) {
                bytes = bytes << 8 | t.charAt(from + i);
            }
            check("feed(" + n + ", " + bytes + "L)", x.feed(n, bytes), o.feed(n, bytes));
            from += n;
        }
    }

    private void texts() {
        int pick = random.nextInt(10);
        if (pick < 4) {
            feedAll(rule());
            check("text()", x.text(), o.text());
        } else if (pick < 5) {
            int n = below(10);
            long b = random.nextLong();
            check("feed(" + n + ", " + b + "L)", x.feed(n, b), o.feed(n, b));
        } else if (pick < 6) {
            check("text()", x.text(), o.text());
        } else {
            int t = below(o.texts.size());
            check("force(" + t + ")", x.force(t), o.force(t));
        }
    }

    // ---- the other parts

    private void founding() {
        if (random.nextInt(2) == 0) {
            int must = below(2);
            int value = below(100);
            check("post(" + must + ", " + value + ")", x.post(must, value), o.post(must, value));
        } else {
            int kind = below(6);
            int rest = rest();
            check("person(" + kind + ", " + rest + ")", x.person(kind, rest), o.person(kind, rest));
        }
    }

    private void changing() {
        int p = someone();
        int q = somePost();
        switch (random.nextInt(8)) {
            case 0: {
                int n = wild(1 + random.nextInt(random.nextInt(4) == 0 ? 9 : 2));
                check("years(" + n + ")", x.years(n), o.years(n));
                break;
            }
            case 1: {
                int is = below(2);
                check("bar(" + p + ", " + q + ", " + is + ")", x.bar(p, q, is), o.bar(p, q, is));
                break;
            }
            case 2: {
                int a = away();
                check("done(" + a + ")", x.done(a), o.done(a));
                break;
            }
            case 3:
                if (random.nextInt(4) == 0) check("image()", x.image(), o.image());
                else if (random.nextInt(3) == 0) check("back()", x.back(), o.back());
                break;
            default:
                check("teach(" + p + ", " + q + ")", x.teach(p, q), o.teach(p, q));
        }
    }

    private void asking() {
        int a = away();
        int p = someone();
        int q = somePost();
        switch (random.nextInt(12)) {
            case 0: { int w = below(10); check("told(" + p + ", " + q + ", " + w + ")", x.told(p, q, w), o.told(p, q, w)); break; }
            case 1: check("fill(" + a + ", -1)", x.fill(a, -1), o.fill(a, -1)); break;
            case 2: check("fill(" + a + ", " + q + ")", x.fill(a, q), o.fill(a, q)); break;
            case 3: check("few(" + a + ")", x.few(a), o.few(a)); break;
            case 4: { int m = below(8); check("holds(" + m + ")", x.holds(m), o.holds(m)); break; }
            case 5: { int m = below(8), w = below(2); check("worst(" + m + ", " + w + ")", x.worst(m, w), o.worst(m, w)); break; }
            case 6: {
                int m = below(3), w = below(3);
                if (budget-- > 0) check("lessons(" + m + ", " + w + ")", x.lessons(m, w), o.lessons(m, w));
                break;
            }
            case 7: check("ring()", x.ring(), o.ring()); break;
            case 8: { int w = below(2); check("sure(" + w + ")", x.sure(w), o.sure(w)); break; }
            case 9: check("even()", x.even(), o.even()); break;
            case 10: {
                int w = random.nextBoolean() ? p : -1;
                check("pay(" + w + ")", x.pay(w), o.pay(w));
                check("first()", x.first(), o.first());
                break;
            }
            default: { int w = below(8); check("count(" + w + ")", x.count(w), o.count(w)); }
        }
    }

    private void host() {
        int s = below(4);
        switch (random.nextInt(8)) {
            case 0: {
                int sort = wild(random.nextInt(4) - 1);
                int n = wild(random.nextInt(4) == 0 ? random.nextInt(41) : o.posts.size());
                check("sheet(" + s + ", " + sort + ", " + n + ")", x.sheet(s, sort, n), o.sheet(s, sort, n));
                break;
            }
            case 1: case 2: case 3: {
                int i = below(random.nextInt(4) == 0 ? 40 : 6);
                int v = random.nextBoolean() ? wild(random.nextInt(8) - 1) : rest();
                check("cell(" + s + ", " + i + ", " + v + ")", x.cell(s, i, v), o.cell(s, i, v));
                break;
            }
            case 4: {
                int i = below(8), t = below(4), j = below(8), n = below(6);
                check("copy(" + s + ", " + i + ", " + t + ", " + j + ", " + n + ")", x.copy(s, i, t, j, n), o.copy(s, i, t, j, n));
                break;
            }
            case 5: {
                int sort = below(3), from = below(6), n = below(9);
                check("people(" + s + ", " + sort + ", " + from + ", " + n + ")", x.people(s, sort, from, n), o.people(s, sort, from, n));
                break;
            }
            case 6: {
                int p = someone(), k = below(6);
                check("taken(" + p + ", " + k + ")", x.taken(p, k), o.taken(p, k));
                break;
            }
            default: judging();
        }
    }

    private void judging() {
        int s = below(4);
        int a = away();
        if (s >= 0 && s < 4 && random.nextInt(4) > 0) {
            int sort = random.nextInt(3);
            check("sheet", x.sheet(s, sort, o.posts.size()), o.sheet(s, sort, o.posts.size()));
            boolean good = o.fill(a, -1) >= 0;
            for (int q = 0; q < o.posts.size(); q++) {
                int v = good && random.nextInt(9) > 0 ? o.fill(a, q) : random.nextInt(8) - 1;
                check("cell(" + s + ", " + q + ", " + v + ")", x.cell(s, q, v), o.cell(s, q, v));
            }
        }
        check("judge(" + a + ", " + s + ")", x.judge(a, s), o.judge(a, s));
    }

    private void run() {
        int found = random.nextInt(14);
        for (int n = 0; n < found; n++) founding();
        int steps = 20 + random.nextInt(240);
        for (int n = 0; n < steps && calls.size() < 440; n++) {
            int pick = random.nextInt(100);
            if (pick < 6) founding();
            else if (pick < 12) texts();
            else if (pick < 40) changing();
            else if (pick < 60) host();
            else asking();
            if (due.failed()) return;
        }
    }

    public static void main(String[] args) {
        Due due = new Due("OracleTest");
        int runs = args.length > 0 ? Integer.parseInt(args[0]) : RUNS;
        long first = args.length > 1 ? Long.parseLong(args[1]) : 1;
        for (long seed = first; seed < first + runs && !due.failed(); seed++) {
            new OracleTest(due, seed).run();
            if (due.failed()) System.out.println("seed " + seed);
        }
        due.end();
    }
}
