import java.util.ArrayList;
import java.util.List;

/**
 * Tests of one sentence each. Whether a call changes something is told by twins: two objects made
 * alike, one of which has the call more, are asked all that can be asked; each look has twins of its
 * own, so that it may change them and no object has more than its 512 calls.
 */
final class Edge {
    interface Making {
        void of(PostsFilled x);
    }

    interface Call {
        long on(PostsFilled x);
    }

    private interface Look {
        void at(PostsFilled x, List<Long> seen);
    }

    private static final List<Look> LOOKS = List.of(
            Edge::people, Edge::fillings, Edge::texts, Edge::imageKept, Edge::yearsToCome,
            (x, seen) -> sheet(x, 0, seen), (x, seen) -> sheet(x, 1, seen),
            (x, seen) -> sheet(x, 2, seen), (x, seen) -> sheet(x, 3, seen));

    private final Due due;

    Edge(String test) {
        due = new Due(test);
    }

    static PostsFilled made(Making making) {
        PostsFilled x = new PostsFilled();
        making.of(x);
        return x;
    }

    void is(String what, long got, long want) {
        due.is(what, got, want);
    }

    void answers(String what, Making making, Call call, long want) {
        due.is(what, call.on(made(making)), want);
    }

    /** The call answers so, and leaves all as it was: for refusals, and for calls that only ask. */
    void leavesAll(String what, Making making, Call call, long want) {
        answers(what, making, call, want);
        for (int i = 0; i < LOOKS.size(); i++) {
            PostsFilled with = made(making);
            PostsFilled without = made(making);
            call.on(with);
            same(what + " changed something (look " + i + ")", seen(LOOKS.get(i), with), seen(LOOKS.get(i), without));
        }
    }

    private void same(String what, List<Long> got, List<Long> want) {
        int at = 0;
        while (at < got.size() && at < want.size() && got.get(at).equals(want.get(at))) {
            at++;
        }
        boolean like = at == got.size() && at == want.size();
        due.is(what + ", answer " + at, like ? 1 : 0, 1);
    }

    void end() {
        due.end();
    }

    // ---- what can be asked

    private static List<Long> seen(Look look, PostsFilled x) {
        List<Long> seen = new ArrayList<>();
        look.at(x, seen);
        return seen;
    }

    private static void people(PostsFilled x, List<Long> seen) {
        for (int what = 0; what < 8; what++) {
            seen.add((long) x.count(what));
        }
        int posts = x.count(0);
        int people = x.count(1);
        for (int p = 0; p < people; p++) {
            for (int what = 0; what < 7; what++) {
                seen.add((long) x.told(p, 0, what));
            }
            for (int q = 0; q < posts; q++) {
                for (int what = 7; what < 10; what++) {
                    seen.add((long) x.told(p, q, what));
                }
            }
            seen.add((long) x.pay(p));
        }
        seen.add((long) x.first());
        seen.add((long) x.even());
    }

    private static void fillings(PostsFilled x, List<Long> seen) {
        int sets = 1 << x.count(1);
        for (int away = 0; away < sets; away++) {
            seen.add((long) x.few(away));
            seen.add((long) x.fill(away, PostsFilled.NONE));
        }
        for (int q = 0; q < 6; q++) {
            seen.add((long) x.fill(0, q));
        }
        for (int many = 0; many < 8; many++) {
            seen.add((long) x.holds(many));
            seen.add((long) x.worst(many, 0));
            seen.add((long) x.worst(many, 1));
        }
        for (int many = 0; many < 3; many++) {
            for (int what = 0; what < 3; what++) {
                seen.add((long) x.lessons(many, what));
            }
        }
        seen.add((long) x.ring());
        seen.add(x.sure(0));
        seen.add(x.sure(1));
    }

    private static void texts(PostsFilled x, List<Long> seen) {
        seen.add((long) x.count(4));
        seen.add((long) x.text());
        seen.add((long) x.count(4));
        x.post(1, 3);
        x.person(0, 47);
        int texts = x.count(3);
        for (int text = 0; text < texts; text++) {
            seen.add((long) x.force(text));
            seen.add((long) x.told(0, 0, 8));
            seen.add((long) x.told(0, 0, 9));
            seen.add((long) x.pay(0));
        }
        seen.add((long) x.feed(8, 0x6d6f7265L));
    }

    private static void imageKept(PostsFilled x, List<Long> seen) {
        seen.add((long) x.back());
        people(x, seen);
    }

    private static void yearsToCome(PostsFilled x, List<Long> seen) {
        int posts = x.count(0);
        int people = x.count(1);
        for (int n = 0; n < 6; n++) {
            seen.add((long) x.years(1));
            seen.add((long) x.first());
            for (int p = 0; p < people; p++) {
                for (int q = 0; q < posts; q++) {
                    seen.add((long) x.told(p, q, 7));
                }
            }
        }
    }

    /** The sort, the size, and the items as far as they are -1 or one of seven people. */
    private static void sheet(PostsFilled x, int sheet, List<Long> seen) {
        int sort = sortOf(x, sheet);
        seen.add((long) sort);
        if (sort < 0) {
            return;
        }
        x.post(0, 1);
        for (int p = x.count(1); p < 7; p++) {
            x.person(3, 0);
        }
        int size = 0;
        while (size < 40 && x.copy(sheet, size, sheet, size, 1) == 1) {
            size++;
        }
        seen.add((long) size);
        int spare = sheet == 0 ? 1 : 0;
        x.sheet(spare, sort, x.count(0));
        for (int i = 0; i < size; i++) {
            x.copy(sheet, i, spare, 0, 1);
            for (int p = 0; p < 7; p++) {
                seen.add((long) x.judge(1 << p, spare) == 10 ? 1L : 0L);
            }
            seen.add((long) x.judge(0, spare));
        }
    }

    /** Looks by people() at a place outside, so that nobody comes. */
    private static int sortOf(PostsFilled x, int sheet) {
        for (int sort = 0; sort < 3; sort++) {
            if (x.people(sheet, sort, 40, 1) == -12) {
                return sort;
            }
        }
        return -1;
    }

    // ---- objects in the midst of their use

    /** Has some of all that an object can have, so that whatever a call changes is seen. */
    static void busy(PostsFilled x) {
        x.post(1, 10);
        x.post(0, 60);
        x.post(1, 20);
        x.person(1, 112);
        x.person(2, 43);
        x.person(3, 201);
        x.person(0, 5);
        x.teach(1, 1);
        x.teach(3, 2);
        x.bar(3, 1, 1);
        Due.text(x, "well 7+own;cost 8;pay 9+number;");
        x.done(2);
        x.years(1);
        x.image();
        x.force(1);
        x.teach(0, 0);
        x.done(1);
        x.bar(2, 2, 1);
        x.years(1);
        Due.feed(x, "well 3;");
        Due.row(x, 0, 0, 0, 1, 2);
        Due.row(x, 1, 2, 3, -1, 0, 5);
        Due.row(x, 2, 1, 4, 1);
    }

    /** Has no room for a post, one of the people, a year, a byte, a text. */
    static void full(PostsFilled x) {
        for (int q = 0; q < 6; q++) {
            x.post(q % 2, 10 * q + 9);
        }
        for (int p = 0; p < 7; p++) {
            x.person(p % 6, 100 * (p % 6) + 10 * p + p);
        }
        for (int n = 0; n < 11; n++) {
            x.years(9);
        }
        x.teach(0, 1);
        x.teach(1, 4);
        for (int n = 1; n < 6; n++) {
            Due.text(x, "well 1;cost 1;pay 1;");
        }
        for (int n = 0; n < 20; n++) {
            x.feed(8, 0x2020202020202020L);
        }
        x.sheet(0, 2, 40);
    }

    static void empty(PostsFilled x) {
    }
}
