/** The boundary cases of promises 18 to 25, and of what part 2 of the document says of them. */
public final class DoneEdgesTest {
    private static final Edge E = new Edge("DoneEdgesTest");
    private static final int NONE = PostsFilled.NONE, BAD = PostsFilled.BAD, STATE = PostsFilled.STATE;
    private static final int FAR = Integer.MAX_VALUE, DEEP = Integer.MIN_VALUE;

    private static void musts(PostsFilled x, int n) {
        for (int q = 0; q < n; q++) {
            x.post(1, 5);
        }
    }

    // ---- 18: done

    private static void doneRefuses() {
        for (int no : new int[] {-1, 16, 17, FAR, DEEP}) {
            E.leavesAll("18: bits " + no, Edge::busy, x -> x.done(no), BAD);
        }
        E.leavesAll("18: there is no filling", Edge::busy, x -> x.done(15), STATE);
        E.leavesAll("18: nobody at all", x -> musts(x, 1), x -> x.done(0), STATE);
        E.leavesAll("18: BAD ahead of STATE", x -> musts(x, 1), x -> x.done(1), BAD);
        E.leavesAll("18: without posts, nothing is filled", Edge::empty, x -> x.done(0), 0);
    }

    private static void howManyAreFilled() {
        for (int n = 0; n <= 6; n++) {
            PostsFilled x = new PostsFilled();
            for (int q = 0; q < 6; q++) {
                x.post(0, 5);
            }
            for (int p = 0; p < n; p++) {
                x.person(0, 100 * p);
            }
            E.is("18: posts filled by " + n, x.done(0), n);
            E.is("18: posts filled when all are away", x.done((1 << n) - 1), 0);
        }
        PostsFilled y = new PostsFilled();
        y.post(1, 5);
        y.post(0, 0);
        y.person(0, 0);
        y.person(0, 100);
        E.is("18: one that stands empty, as it comes to nothing, is not filled", y.done(0), 1);
    }

    private static void doneLastNow() {
        PostsFilled x = new PostsFilled();
        musts(x, 2);
        x.person(0, 0);
        x.person(0, 0);
        x.teach(0, 1);
        x.teach(1, 1);
        x.years(2);
        E.is("18: done in the last year that it is kept", x.done(0), 2);
        x.years(2);
        E.is("18: who did it has done it last two years ago", x.told(1, 1, 7), 1);
        E.is("18: who did its own has not", x.told(0, 1, 7), 0);
        x.years(1);
        E.is("18: three years ago", x.told(1, 1, 7), 0);
        E.is("18: nobody can", x.done(0), STATE);
    }

    private static void whoIsAwayDoesNothing() {
        PostsFilled x = new PostsFilled();
        musts(x, 1);
        x.person(0, 0);
        x.person(0, 0);
        x.post(0, 5);
        x.teach(0, 1);
        x.teach(1, 1);
        x.years(1);
        E.is("18: with one away", x.done(1), 1);
        x.years(2);
        E.is("18: it has not done it", x.first(), NONE);
        E.is("18: it was not asked", x.told(0, 0, 6), 0);
    }

    private static void notTaughtStaysSo() {
        PostsFilled x = new PostsFilled();
        musts(x, 2);
        x.person(1, 0);
        x.person(0, 0);
        E.is("18: a hand beside its own", x.done(0), 2);
        E.is("18: was asked", x.told(0, 0, 6), 1);
        E.is("18: was not taught by it", x.count(7), 0);
        E.is("18: has nothing to forget", x.first(), NONE);
    }

    private static void doneBesidesBeingForgotten() {
        PostsFilled x = new PostsFilled();
        musts(x, 2);
        x.person(1, 0);
        x.person(0, 0);
        x.teach(0, 1);
        x.years(3);
        E.is("18: forgotten", x.first(), NONE);
        E.is("18: but done, as it is beside its own", x.done(0), 2);
        E.is("18: so it has done it last now", x.first(), 1);
        x.years(2);
        E.is("18: two years ago", x.first(), 1);
        x.years(1);
        E.is("18: three years ago", x.first(), NONE);
    }

    private static void askedOnceMore() {
        PostsFilled x = new PostsFilled();
        musts(x, 3);
        x.person(1, 0);
        x.person(0, 0);
        x.person(0, 200);
        for (int n = 1; n <= 9; n++) {
            E.is("18: three posts are filled", x.done(0), 3);
            E.is("18: who does one not its own was asked", x.told(0, 0, 6), n);
            E.is("18: who does its own was not", x.told(1, 0, 6), 0);
            E.is("18: who does its own was not", x.told(2, 0, 6), 0);
            E.is("19: the greatest number less the least", x.even(), n);
        }
    }

    // ---- 19: even

    private static void evenAnswers() {
        E.leavesAll("19: without people", Edge::empty, PostsFilled::even, NONE);
        E.leavesAll("19: without people, with posts", x -> musts(x, 3), PostsFilled::even, NONE);
        E.answers("19: one", x -> {
            musts(x, 1);
            x.person(0, 0);
        }, PostsFilled::even, 0);
        E.leavesAll("19: busy", Edge::busy, PostsFilled::even, Edge.made(Edge::busy).even());
        PostsFilled x = new PostsFilled();
        musts(x, 1);
        x.post(0, 1);
        x.person(1, 100);
        x.done(0);
        E.is("19: one who was asked", x.even(), 0);
        x.person(1, 100);
        E.is("19: the last was never", x.even(), 1);
        x.done(1);
        E.is("19: each once", x.even(), 0);
        x.done(1);
        E.is("19: the last more", x.even(), 1);
        x.person(0, 100);
        E.is("19: twice, and never", x.even(), 2);
    }

    // ---- 20: pay

    private static void payAnswers() {
        for (int no : new int[] {-2, 4, 7, FAR, DEEP}) {
            E.leavesAll("20: person " + no, Edge::busy, x -> x.pay(no), BAD);
        }
        E.leavesAll("20: person 0 of none", Edge::empty, x -> x.pay(0), BAD);
        E.leavesAll("20: all of none", Edge::empty, x -> x.pay(NONE), 0);
        int sum = 0;
        for (int p = 0; p < 4; p++) {
            int person = p;
            int pay = Edge.made(Edge::busy).pay(p);
            E.leavesAll("20: person " + p, Edge::busy, x -> x.pay(person), pay);
            sum += pay;
        }
        E.leavesAll("20: of all", Edge::busy, x -> x.pay(NONE), sum);
    }

    private static void payOfSeven() {
        PostsFilled x = new PostsFilled();
        for (int q = 0; q < 6; q++) {
            x.post(1, 99);
        }
        for (int p = 0; p < 7; p++) {
            x.person(4, 0);
        }
        Due.text(x, "well 1;cost 1;pay 999;");
        x.force(1);
        E.is("20: a chief's six posts twice", x.pay(6), 12 * 999);
        E.is("20: seven of them", x.pay(NONE), 7 * 12 * 999);
        for (int q = 0; q < 6; q++) {
            x.bar(0, q, 1);
        }
        E.is("20: who can do nothing", x.pay(0), 0);
        E.is("20: all others", x.pay(NONE), 6 * 12 * 999);
    }

    private static void payOfItsOwnPost() {
        PostsFilled x = new PostsFilled();
        x.post(0, 7);
        x.post(1, 9);
        x.person(0, 0);
        x.person(0, 130);
        x.teach(1, 0);
        Due.text(x, "well 1;cost 1;pay value+100*must+200*own+3*number+taught;");
        x.force(1);
        E.is("20: of its own post, which may stand empty", x.pay(0), 207);
        E.is("20: of its own post for each of two", x.pay(1), 2 * (9 + 100 + 200 + 9 + 1));
        x.years(3);
        E.is("20: what is forgotten does not count", x.pay(1), 9 + 100 + 200 + 9 + 1);
    }

    // ---- 21: first

    private static void firstAnswers() {
        E.leavesAll("21: nobody", Edge::empty, PostsFilled::first, NONE);
        E.leavesAll("21: none taught", x -> {
            musts(x, 2);
            x.person(1, 0);
        }, PostsFilled::first, NONE);
        E.leavesAll("21: busy", Edge::busy, PostsFilled::first, Edge.made(Edge::busy).first());
        E.answers("21: the last one, the last post", x -> {
            musts(x, 6);
            for (int p = 0; p < 7; p++) {
                x.person(0, 0);
            }
            x.teach(6, 5);
        }, PostsFilled::first, 65);
    }

    private static void fewestYearsMore() {
        PostsFilled x = new PostsFilled();
        musts(x, 3);
        x.person(3, 0);
        x.person(0, 0);
        x.person(5, 0);
        x.teach(0, 2);
        E.is("21: three years more", x.first(), 2);
        x.teach(1, 2);
        E.is("21: two years more", x.first(), 12);
        x.teach(2, 2);
        E.is("21: one year more", x.first(), 22);
        x.years(1);
        E.is("21: none more, but still", x.first(), 22);
        x.years(1);
        E.is("21: not any more; the next none more", x.first(), 12);
        x.years(1);
        E.is("21: the next", x.first(), 2);
        x.years(1);
        E.is("21: all forgotten", x.first(), NONE);
    }

    private static void theYearInWhichItWasTaught() {
        PostsFilled x = new PostsFilled();
        musts(x, 3);
        x.person(0, 0);
        x.person(0, 0);
        x.teach(1, 2);
        x.years(1);
        x.teach(0, 1);
        E.is("21: taught a year earlier, one year more", x.first(), 12);
        x.teach(1, 2);
        E.is("21: taught anew, two years more: the least one", x.first(), 1);
        x.years(1);
        x.teach(0, 1);
        E.is("21: the other taught anew", x.first(), 12);
        x.teach(0, 2);
        x.teach(1, 1);
        E.is("21: later ones that are kept longer do not matter", x.first(), 12);
        x.years(2);
        E.is("21: that one is forgotten", x.first(), 1);
        x.years(1);
        E.is("21: all are forgotten", x.first(), NONE);
        x.teach(0, 1);
        x.years(1);
        x.teach(0, 2);
        x.teach(1, 1);
        E.is("21: the first is kept the fewest years more", x.first(), 1);
    }

    private static void leastOneThenPost() {
        PostsFilled x = new PostsFilled();
        musts(x, 4);
        x.person(0, 100);
        x.person(0, 100);
        x.teach(1, 0);
        x.teach(1, 3);
        E.is("21: the least post", x.first(), 10);
        x.teach(0, 3);
        E.is("21: the least one, though of a greater post", x.first(), 3);
        x.teach(0, 2);
        E.is("21: then the least post", x.first(), 2);
        x.bar(0, 2, 1);
        E.is("21: not one that it is barred from", x.first(), 3);
        x.bar(0, 3, 1);
        E.is("21: not one that it is barred from", x.first(), 10);
        x.bar(0, 2, 0);
        E.is("21: not barred any more", x.first(), 2);
    }

    // ---- 22: judge

    /** One post that must be filled, two that may stand empty; a porter, a person of post 1, a person of post 0. */
    private static void three(PostsFilled x) {
        x.post(1, 10);
        x.post(0, 20);
        x.post(0, 30);
        x.person(3, 0);
        x.person(0, 100);
        x.person(0, 0);
    }

    private static void judged(String name, int away, int want, int... row) {
        for (int s = 0; s < 3; s++) {
            int sort = s;
            E.leavesAll("22: " + name + ", sort " + s, x -> {
                three(x);
                Due.row(x, 3, sort, row);
            }, x -> x.judge(away, 3), want);
        }
    }

    private static void judgeAnswers() {
        judged("it can be so", 0, NONE, 0, 1, -1);
        judged("posts that may stand empty", 0, NONE, 2, -1, -1);
        judged("post 0 must be filled", 0, 30, -1, 1, 0);
        judged("no such one, 3", 0, 10, 3, 1, 0);
        judged("the last one", 0, NONE, 2, 1, 0);
        judged("no such one, -2", 0, 11, 2, -2, 0);
        judged("no such one, 127", 0, 12, 2, 1, 127);
        judged("no such one, -128", 0, 12, 2, 1, -128);
        judged("no such one, 32: no bit of an int is so high", 0, 10, 32, 1, 0);
        judged("no such one, 31", 0, 10, 31, 1, 0);
        judged("away", 4, 10, 2, 1, 0);
        judged("away, a later post", 1, 12, 2, 1, 0);
        judged("the others may be away", 1, NONE, 2, 1, -1);
        judged("all away", 7, 10, 2, 1, 0);
        judged("at an earlier post", 0, 12, 0, 1, 0);
        judged("at the post just before", 0, 11, 0, 0, 1);
        judged("nobody at two is no one twice", 0, NONE, 0, -1, -1);
        judged("it can not do it", 0, 20, 1, 0, -1);
        judged("it can not do it, the last post", 0, 22, 2, 0, 1);
        judged("away ahead of can not", 2, 10, 1, 0, -1);
        judged("at an earlier post ahead of can not", 0, 12, 2, 1, 2);
        judged("the first post ahead of what is worse later", 0, 20, 1, 9, 9);
        judged("the earlier post can't be told by the later one", 0, 12, 2, 0, 0);
    }

    private static void eachPostThatMust() {
        for (int must = 0; must < 6; must++) {
            PostsFilled x = new PostsFilled();
            for (int q = 0; q < 6; q++) {
                x.post(q == must ? 1 : 0, 5);
            }
            x.person(0, 100 * must);
            Due.row(x, 0, 0, -1, -1, -1, -1, -1, -1);
            E.is("22: 30 and post", x.judge(0, 0), 30 + must);
            x.cell(0, must, 0);
            E.is("22: filled", x.judge(0, 0), NONE);
            E.is("22: 10 and post", x.judge(1, 0), 10 + must);
            x.bar(0, must, 1);
            E.is("22: 20 and post", x.judge(0, 0), 20 + must);
        }
    }

    private static void judgeRefuses() {
        for (int no : new int[] {-1, 4, FAR, DEEP}) {
            E.leavesAll("22: sheet " + no, Edge::busy, x -> x.judge(0, no), BAD);
        }
        for (int no : new int[] {-1, 16, FAR, DEEP}) {
            E.leavesAll("22: bits " + no, Edge::busy, x -> x.judge(no, 0), BAD);
            E.leavesAll("22: BAD bits " + no + " ahead of a missing sheet", Edge::busy, x -> x.judge(no, 3), BAD);
        }
        E.leavesAll("22: missing", Edge::busy, x -> x.judge(0, 3), -11);
        E.leavesAll("22: one less than posts", Edge::busy, x -> x.judge(0, 2), BAD);
        E.answers("22: as many as posts", Edge::busy, x -> x.judge(0, 0) != BAD ? 1 : 0, 1);
        E.leavesAll("22: one more than posts", Edge::busy, x -> x.judge(0, 1), BAD);
        E.answers("22: none of none", x -> x.sheet(0, 0, 0), x -> x.judge(0, 0), NONE);
        E.answers("22: one of none", x -> x.sheet(0, 0, 1), x -> x.judge(0, 0), BAD);
        E.answers("22: missing, though there are no posts", Edge::empty, x -> x.judge(0, 0), -11);
    }

    private static void judgeAgreesWithFill() {
        PostsFilled x = Edge.made(Edge::busy);
        for (int away = 0; away < 16; away++) {
            if (x.fill(away, NONE) == STATE) {
                continue;
            }
            for (int q = 0; q < 3; q++) {
                x.cell(0, q, x.fill(away, q));
            }
            E.is("22: a filling can be so, " + away, x.judge(away, 0), NONE);
        }
    }

    // ---- 23, 24: image, back

    private static void backWithoutImage() {
        E.leavesAll("24: there is none", Edge::full, PostsFilled::back, STATE);
        E.leavesAll("24: there is none, new", Edge::empty, PostsFilled::back, STATE);
    }

    private static void imageAnswersYears() {
        PostsFilled x = new PostsFilled();
        E.is("23: year 0", x.image(), 0);
        E.is("24: back at once", x.back(), 0);
        for (int n = 0; n < 11; n++) {
            x.years(9);
        }
        E.is("24: back from 99", x.back(), 0);
        E.is("24: years", x.count(2), 0);
        for (int n = 0; n < 11; n++) {
            x.years(9);
        }
        E.is("23: year 99", x.image(), 99);
        E.is("24: back to 99", x.back(), 99);
    }

    private static void backAtOnceLeavesAll() {
        E.leavesAll("23, 24: image and back at once", x -> {
            Edge.busy(x);
            x.image();
        }, PostsFilled::back, 2);
        E.leavesAll("24: back twice", x -> {
            Edge.busy(x);
            x.back();
        }, PostsFilled::back, 1);
        E.leavesAll("23: image twice", x -> {
            Edge.busy(x);
            x.image();
        }, PostsFilled::image, 2);
    }

    private static void imageOfSeven() {
        E.leavesAll("23, 24: image and back of seven people", x -> {
            Edge.full(x);
            x.image();
        }, PostsFilled::back, 99);
        E.answers("23: image of seven people", Edge::full, PostsFilled::image, 99);
    }

    /** Going back ahead of the year in which one who came since was taught. */
    private static void taughtInAYearToCome() {
        PostsFilled x = new PostsFilled();
        musts(x, 2);
        x.image();
        x.years(5);
        x.person(0, 0);
        x.teach(0, 1);
        E.is("24: back", x.back(), 0);
        E.is("24: what it was taught stays", x.told(0, 1, 7), 1);
        x.years(7);
        E.is("24: it was taught in year 5, and keeps it till 7", x.told(0, 1, 7), 1);
        x.years(1);
        E.is("24: and no longer", x.told(0, 1, 7), 0);
    }

    private static void theLaterImageIsKept() {
        PostsFilled x = new PostsFilled();
        x.image();
        x.years(3);
        E.is("23: a later image", x.image(), 3);
        x.years(4);
        E.is("24: back to the later", x.back(), 3);
        x.years(1);
        E.is("24: and again, though years went by", x.back(), 3);
    }

    /** What is kept comes back; what isn't stays. */
    private static void whatAnImageKeeps() {
        PostsFilled x = new PostsFilled();
        musts(x, 2);
        x.person(1, 0);
        x.person(0, 0);
        x.teach(1, 1);
        x.bar(0, 0, 1);
        Due.text(x, "well 9;cost 9;pay 9;");
        x.years(2);
        x.image();
        x.force(1);
        x.bar(0, 0, 0);
        x.bar(0, 1, 1);
        x.done(0);
        x.teach(0, 1);
        x.years(9);
        Due.text(x, "well 8;cost 8;pay 8;");
        Due.feed(x, "well");
        Due.row(x, 0, 0, 1, 1);
        E.is("24: back", x.back(), 2);
        E.is("24: years", x.count(2), 2);
        E.is("24: the rule", x.count(5), 0);
        E.is("24: a bar that was", x.bar(0, 0, 1), 1);
        E.is("24: a bar that was not", x.bar(0, 1, 0), 0);
        E.is("24: asked", x.told(1, 0, 6), 0);
        E.is("24: taught", x.count(7), 1);
        E.is("24: done last is as it was: taught two years ago", x.told(1, 1, 8), 3);
        E.is("24: texts stay", x.count(3), 3);
        E.is("24: the tape stays", x.count(4), 4);
        E.is("24: sheets stay", x.judge(0, 0), 11);
    }

    private static void whatWasForgottenComesBack() {
        PostsFilled x = new PostsFilled();
        musts(x, 2);
        x.person(0, 0);
        x.teach(0, 1);
        x.years(2);
        x.image();
        x.years(1);
        E.is("24: forgotten", x.told(0, 1, 7), 0);
        x.back();
        E.is("24: not yet", x.told(0, 1, 7), 1);
        E.is("24: to forget first", x.first(), 1);
    }

    private static void whatCameSinceStays() {
        PostsFilled x = new PostsFilled();
        musts(x, 1);
        x.person(0, 0);
        x.image();
        x.post(1, 60);
        x.person(0, 199);
        x.teach(0, 1);
        x.teach(1, 0);
        E.is("24: back", x.back(), 0);
        E.is("24: posts that came since stay", x.count(0), 2);
        E.is("24: people that came since stay", x.count(1), 2);
        E.is("24: as they came", x.told(1, 0, 1), 1);
        E.is("24: what they were taught stays", x.told(1, 0, 7), 1);
        E.is("24: what the others were taught since does not", x.told(0, 1, 7), 0);
        E.is("24: taught", x.count(7), 1);
        x.years(2);
        E.is("24: they keep it from the year in which they were taught", x.told(1, 0, 7), 1);
        x.years(1);
        E.is("24: and no longer", x.told(1, 0, 7), 0);
        x.image();
        x.teach(1, 0);
        x.back();
        E.is("23: in the next image they are with the others", x.told(1, 0, 7), 0);
    }

    // ---- 25: count

    private static void countAnswers() {
        for (int no : new int[] {-1, 8, 9, FAR, DEEP}) {
            E.leavesAll("25: what " + no, Edge::busy, x -> x.count(no), BAD);
        }
        int[] busy = {3, 4, 2, 2, 7, 1, 2, 3};
        int[] full = {6, 7, 99, 6, 160, 0, 3, 2};
        for (int w = 0; w < 8; w++) {
            int what = w;
            E.leavesAll("25: busy, what " + w, Edge::busy, x -> x.count(what), busy[w]);
            E.leavesAll("25: full, what " + w, Edge::full, x -> x.count(what), full[w]);
        }
    }

    private static void countOfAllTaught() {
        PostsFilled x = new PostsFilled();
        musts(x, 6);
        int n = 0;
        for (int p = 0; p < 7; p++) {
            x.person(0, 0);
            for (int q = 1; q < 6; q++) {
                x.teach(p, q);
                n++;
                E.is("25: of one and a post each", x.count(7), n);
            }
        }
        x.teach(0, 1);
        E.is("25: anew is no more", x.count(7), 35);
        x.bar(0, 1, 1);
        x.years(9);
        E.is("25: forgotten, barred: it was taught", x.count(7), 35);
    }

    public static void main(String[] args) {
        doneRefuses();
        howManyAreFilled();
        doneLastNow();
        whoIsAwayDoesNothing();
        notTaughtStaysSo();
        doneBesidesBeingForgotten();
        askedOnceMore();
        evenAnswers();
        payAnswers();
        payOfSeven();
        payOfItsOwnPost();
        firstAnswers();
        fewestYearsMore();
        theYearInWhichItWasTaught();
        leastOneThenPost();
        judgeAnswers();
        eachPostThatMust();
        judgeRefuses();
        judgeAgreesWithFill();
        backWithoutImage();
        imageAnswersYears();
        backAtOnceLeavesAll();
        imageOfSeven();
        taughtInAYearToCome();
        theLaterImageIsKept();
        whatAnImageKeeps();
        whatWasForgottenComesBack();
        whatCameSinceStays();
        countAnswers();
        countOfAllTaught();
        E.end();
    }
}
