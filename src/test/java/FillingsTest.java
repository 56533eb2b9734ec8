/** Promises 11 to 17: fill, few, holds, worst, lessons, ring, sure. */
public final class FillingsTest {
    private static final Due DUE = new Due("FillingsTest");
    private static final int NONE = PostsFilled.NONE, BAD = PostsFilled.BAD, STATE = PostsFilled.STATE;

    /** Posts by must and value, two by two. */
    private static PostsFilled posts(int... mustAndValue) {
        PostsFilled x = new PostsFilled();
        for (int i = 0; i < mustAndValue.length; i += 2) {
            x.post(mustAndValue[i], mustAndValue[i + 1]);
        }
        return x;
    }

    private static void fillRefuses() {
        PostsFilled x = posts(1, 5, 0, 5);
        x.person(0, 0);
        DUE.is("fill away -1", x.fill(-1, 0), BAD);
        DUE.is("fill away 2", x.fill(2, 0), BAD);
        DUE.is("fill post 2", x.fill(0, 2), BAD);
        DUE.is("fill post -2", x.fill(0, -2), BAD);
        DUE.is("fill BAD ahead of STATE", x.fill(1, 2), BAD);
        DUE.is("fill STATE", x.fill(1, 0), STATE);
        DUE.is("fill STATE, worth", x.fill(1, -1), STATE);
        DUE.is("fill", x.fill(0, 0), 0);
        DUE.is("fill nobody", x.fill(0, 1), NONE);
        DUE.is("fill worth", x.fill(0, -1), 50);
    }

    private static void fillIsBest() {
        PostsFilled x = posts(0, 10, 0, 90);
        x.person(0, 0);
        x.teach(0, 1);
        DUE.is("rather the taught post of more value", x.fill(0, 1), 0);
        DUE.is("and none at its own", x.fill(0, 0), NONE);
        DUE.is("worth", x.fill(0, -1), 450);
        x.person(0, 100);
        DUE.is("each its own", x.fill(0, 0), 0);
        DUE.is("each its own", x.fill(0, 1), 1);
        DUE.is("worth of both", x.fill(0, -1), 1000);
        DUE.is("without one", x.fill(1, 0), NONE);
    }

    private static void fillIsFirst() {
        PostsFilled x = posts(1, 5, 0, 0, 1, 5);
        x.person(0, 200);
        x.person(0, 200);
        x.person(0, 0);
        x.person(0, 0);
        x.person(0, 100);
        DUE.is("least of like ones", x.fill(0, 0), 2);
        DUE.is("nobody first, if it comes to nothing", x.fill(0, 1), NONE);
        DUE.is("least of like ones", x.fill(0, 2), 0);
        DUE.is("the next, if that is away", x.fill(1 + 4, 0), 3);
        DUE.is("the next, if that is away", x.fill(1 + 4, 2), 1);
        PostsFilled y = posts(1, 0, 1, 0);
        y.person(0, 0);
        y.person(0, 100);
        y.teach(0, 1);
        y.teach(1, 0);
        DUE.is("nobody at two", y.fill(0, 0), 0);
        DUE.is("nobody at two", y.fill(0, 1), 1);
        y.bar(0, 0, 1);
        DUE.is("they change", y.fill(0, 0), 1);
        DUE.is("they change", y.fill(0, 1), 0);
        DUE.is("one is too few", y.fill(1, -1), STATE);
    }

    private static void few() {
        PostsFilled x = posts(1, 5, 0, 5, 1, 5, 1, 5);
        DUE.is("nobody at all", x.few(0), 1);
        DUE.is("few away 1", x.few(1), BAD);
        DUE.is("few away -1", x.few(-1), BAD);
        x.person(0, 0);
        DUE.is("the least as bits", x.few(0), 4);
        x.teach(0, 2);
        x.teach(0, 3);
        DUE.is("one for two", x.few(0), 1 + 4);
        x.person(0, 200);
        DUE.is("one for two", x.few(0), 1 + 8);
        x.teach(1, 3);
        DUE.is("two for three", x.few(0), 1 + 4 + 8);
        x.person(0, 300);
        DUE.is("enough, the free post does not count", x.few(0), NONE);
        DUE.is("least many posts", x.few(4), 1 + 4 + 8);
        DUE.is("least many posts", x.few(1), 1);
    }

    private static void holds() {
        PostsFilled x = posts(1, 5, 1, 5);
        DUE.is("holds -1", x.holds(-1), BAD);
        DUE.is("holds 8", x.holds(8), BAD);
        DUE.is("holds 0", x.holds(0), 0);
        DUE.is("there are no seven", x.holds(7), 1);
        x.person(1, 0);
        x.person(1, 100);
        x.person(1, 100);
        DUE.is("all three", x.holds(0), 1);
        DUE.is("any two", x.holds(1), 1);
        DUE.is("one", x.holds(2), 0);
        DUE.is("nobody", x.holds(3), 0);
        DUE.is("there are no four", x.holds(4), 1);
        PostsFilled y = posts(0, 5);
        y.person(0, 0);
        DUE.is("what may stand empty", y.holds(1), 1);
    }

    private static void worst() {
        PostsFilled x = posts(1, 10, 0, 50, 0, 20);
        x.person(0, 0);
        x.person(0, 100);
        x.person(0, 200);
        x.person(0, 0);
        DUE.is("worst -1", x.worst(-1, 0), BAD);
        DUE.is("worst 8", x.worst(8, 1), BAD);
        DUE.is("worst what 2", x.worst(1, 2), BAD);
        DUE.is("worst what -1", x.worst(1, -1), BAD);
        DUE.is("none of one", x.worst(1, 0), NONE);
        DUE.is("two who leave no filling", x.worst(2, 0), 1 + 8);
        DUE.is("three: the least", x.worst(3, 0), 1 + 2 + 8);
        DUE.is("five there are not", x.worst(5, 0), NONE);
        DUE.is("seven there are not", x.worst(7, 0), NONE);
        DUE.is("lack of nobody", x.worst(0, 1), 0);
        DUE.is("lack of one", x.worst(1, 1), 2);
        DUE.is("lack of two", x.worst(2, 1), 2 + 4);
        DUE.is("lack of three: the least", x.worst(3, 1), 1 + 2 + 4);
        DUE.is("lack of four", x.worst(4, 1), NONE);
        DUE.is("lack of five", x.worst(5, 1), NONE);
        PostsFilled y = posts(1, 5);
        DUE.is("nobody leaves none", y.worst(0, 0), 0);
        DUE.is("nobody has none", y.worst(0, 1), NONE);
    }

    private static void lessons(PostsFilled x, String name, int many, int found, int cost, int which) {
        DUE.is(name + ", how many", x.lessons(many, 0), found);
        DUE.is(name + ", cost", x.lessons(many, 1), cost);
        DUE.is(name + ", which", x.lessons(many, 2), which);
    }

    private static void lessons() {
        PostsFilled x = posts(1, 10, 1, 20);
        DUE.is("lessons -1", x.lessons(-1, 0), BAD);
        DUE.is("lessons 3", x.lessons(3, 0), BAD);
        DUE.is("lessons what -1", x.lessons(0, -1), BAD);
        DUE.is("lessons what 3", x.lessons(0, 3), BAD);
        lessons(x, "without people", 0, NONE, NONE, NONE);
        x.person(0, 0);
        x.person(0, 0);
        lessons(x, "one lesson", 0, 1, 23, 1);
        x.person(0, 10);
        lessons(x, "one lesson, the cheapest", 0, 1, 22, 21);
        lessons(x, "two lessons", 1, 2, 45, 121);
        lessons(x, "too few of three", 2, NONE, NONE, NONE);
        x.bar(2, 1, 1);
        lessons(x, "not of the barred", 0, 1, 23, 1);
        lessons(x, "two lessons, the first", 1, 2, 46, 111);
        x.teach(1, 1);
        lessons(x, "none", 0, 0, 0, 0);
        lessons(x, "one that it can't do", 1, 1, 23, 1);
        DUE.is("nothing was taught", x.count(7), 1);
        PostsFilled y = posts(1, 5, 1, 5, 1, 5);
        y.person(0, 0);
        y.person(0, 0);
        y.person(0, 0);
        lessons(y, "two at two posts", 0, 2, 16, 112);
        PostsFilled z = posts(1, 5, 1, 6);
        z.person(0, 0);
        z.person(0, 100);
        z.person(0, 0);
        z.person(0, 0);
        DUE.is("a post that lacks two", z.lessons(2, 0), 2);
        DUE.is("which, of two people", z.lessons(2, 2), 121);
    }

    private static void ring() {
        PostsFilled x = posts(1, 5, 1, 5, 1, 5);
        DUE.is("ring of nobody", x.ring(), NONE);
        x.person(0, 0);
        DUE.is("ring of one", x.ring(), NONE);
        x.person(0, 200);
        x.person(0, 100);
        DUE.is("ring of three", x.ring(), 0);
        x.person(0, 0);
        DUE.is("ring of four, the last learns the first's", x.ring(), 1);
        x.person(0, 100);
        DUE.is("ring of five", x.ring(), 1);
        x.bar(0, 2, 1);
        DUE.is("ring with a bar", x.ring(), 0);
        DUE.is("nothing was taught", x.count(7), 0);
        PostsFilled y = posts(0, 5);
        DUE.is("nothing must be, nobody", y.ring(), 0);
        y.person(0, 0);
        y.person(0, 0);
        DUE.is("nothing must be: all may be away", y.ring(), 2);
    }

    private static void sure() {
        PostsFilled x = posts(1, 5);
        DUE.is("sure -1", x.sure(-1), PostsFilled.NO);
        DUE.is("sure 2", x.sure(2), PostsFilled.NO);
        DUE.is("sure of nothing", x.sure(0), 0);
        DUE.is("sure of nothing, by", x.sure(1), 1);
        x.person(0, 5);
        DUE.is("a half", x.sure(0), 1);
        DUE.is("a half", x.sure(1), 2);
        x.person(0, 5);
        DUE.is("three quarters", x.sure(0), 3);
        DUE.is("three quarters", x.sure(1), 4);
        for (int p = 2; p < 7; p++) {
            x.person(0, 9);
        }
        DUE.is("seven, in lowest terms", x.sure(0), 8523775 / 25);
        DUE.is("seven, in lowest terms", x.sure(1), 10000000 / 25);
        x.bar(0, 0, 1);
        x.bar(1, 0, 1);
        DUE.is("five of them", x.sure(0), 100000 - 59049);
        DUE.is("five of them", x.sure(1), 100000);
        PostsFilled y = posts(0, 5);
        y.person(0, 9);
        DUE.is("nothing must be", y.sure(0), 1);
        DUE.is("nothing must be", y.sure(1), 1);
    }

    public static void main(String[] args) {
        fillRefuses();
        fillIsBest();
        fillIsFirst();
        few();
        holds();
        worst();
        lessons();
        ring();
        sure();
        DUE.end();
    }
}
