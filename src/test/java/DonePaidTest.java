/** Promises 18 to 25: done, even, pay, first, judge, image, back, count. */
public final class DonePaidTest {
    private static final Due DUE = new Due("DonePaidTest");
    private static final int NONE = PostsFilled.NONE, BAD = PostsFilled.BAD, STATE = PostsFilled.STATE;

    private static PostsFilled two() {
        PostsFilled x = new PostsFilled();
        x.post(1, 10);
        x.post(0, 20);
        x.person(0, 0);
        x.person(0, 100);
        return x;
    }

    private static void done() {
        PostsFilled x = two();
        DUE.is("done -1", x.done(-1), BAD);
        DUE.is("done 4", x.done(4), BAD);
        DUE.is("done without a filling", x.done(1), STATE);
        DUE.is("done", x.done(0), 2);
        DUE.is("its own is not asked", x.told(0, 0, 6), 0);
        x.teach(1, 0);
        x.years(2);
        DUE.is("done by one", x.done(1), 1);
        DUE.is("asked", x.told(1, 0, 6), 1);
        DUE.is("not asked", x.told(0, 0, 6), 0);
        x.years(2);
        DUE.is("done last two years ago", x.told(1, 0, 7), 1);
        x.years(1);
        DUE.is("forgotten", x.told(1, 0, 7), 0);
        DUE.is("none can", x.done(1), STATE);
        DUE.is("asked once", x.told(1, 0, 6), 1);
    }

    private static void doneByKind() {
        PostsFilled x = new PostsFilled();
        x.post(1, 10);
        x.post(1, 20);
        x.person(1, 100);
        x.person(0, 100);
        x.done(0);
        DUE.is("done without being taught", x.told(0, 0, 6), 1);
        DUE.is("is not taught", x.count(7), 0);
        x.teach(0, 0);
        x.years(9);
        DUE.is("done, being taught, though not kept", x.done(0), 2);
        DUE.is("has done it last now", x.first(), 0);
        DUE.is("asked twice", x.told(0, 0, 6), 2);
    }

    private static void even() {
        PostsFilled x = new PostsFilled();
        DUE.is("even of nobody", x.even(), NONE);
        x.post(1, 10);
        x.post(1, 10);
        x.person(1, 100);
        DUE.is("even of one", x.even(), 0);
        x.person(0, 100);
        x.done(0);
        x.done(0);
        DUE.is("even of two", x.even(), 2);
        x.person(0, 100);
        DUE.is("even of three", x.even(), 2);
        PostsFilled y = new PostsFilled();
        y.post(1, 10);
        y.post(1, 10);
        y.person(0, 100);
        y.person(1, 100);
        y.done(0);
        DUE.is("even, the first is the least", y.even(), 1);
        y.bar(0, 1, 1);
        y.teach(0, 0);
        y.done(0);
        DUE.is("even, all were asked", y.even(), 0);
    }

    private static void pay() {
        PostsFilled x = two();
        DUE.is("pay 2", x.pay(2), BAD);
        DUE.is("pay -2", x.pay(-2), BAD);
        DUE.is("pay", x.pay(0), 10);
        x.teach(0, 1);
        DUE.is("pay of two", x.pay(0), 20);
        DUE.is("pay of all", x.pay(-1), 30);
        x.person(4, 150);
        DUE.is("pay of a chief", x.pay(2), 20);
        Due.text(x, "well 1; cost 1; pay 100 * own + value + years + number;");
        x.force(1);
        DUE.is("pay of its own post", x.pay(0), 2 * (100 + 10 + 99));
        DUE.is("pay of its own post", x.pay(2), 2 * (100 + 20 + 99 + 5));
        Due.text(x, "well 1; cost 1; pay 1000;");
        x.force(2);
        DUE.is("pay, the bound", x.pay(0), 2 * 999);
        Due.text(x, "well 1; cost 1; pay 0 - 1;");
        x.force(3);
        DUE.is("pay, the other bound", x.pay(-1), 0);
    }

    private static void first() {
        PostsFilled x = new PostsFilled();
        DUE.is("first of nobody", x.first(), NONE);
        for (int q = 0; q < 4; q++) {
            x.post(1, 10);
        }
        x.person(2, 20);
        x.person(0, 0);
        x.person(5, 100);
        DUE.is("first of none taught", x.first(), NONE);
        x.teach(0, 3);
        DUE.is("the only one", x.first(), 3);
        x.teach(1, 3);
        x.teach(1, 2);
        DUE.is("of like ones the least post", x.first(), 12);
        x.bar(1, 2, 1);
        DUE.is("not the barred", x.first(), 13);
        x.teach(2, 0);
        DUE.is("the fewest years", x.first(), 20);
        x.years(1);
        DUE.is("this year still", x.first(), 20);
        x.years(1);
        DUE.is("forgotten", x.first(), 13);
        x.years(1);
        DUE.is("forgotten", x.first(), 3);
        x.teach(1, 1);
        x.years(1);
        DUE.is("like ones: the least one", x.first(), 3);
        x.years(1);
        DUE.is("forgotten", x.first(), 11);
        x.years(1);
        DUE.is("all forgotten", x.first(), NONE);
    }

    private static void judge() {
        PostsFilled x = two();
        x.person(0, 100);
        DUE.is("judge away 8", x.judge(8, 0), BAD);
        DUE.is("judge away -1", x.judge(-1, 0), BAD);
        DUE.is("judge sheet 4", x.judge(0, 4), BAD);
        DUE.is("judge sheet -1", x.judge(0, -1), BAD);
        DUE.is("judge BAD ahead of missing", x.judge(8, 0), BAD);
        DUE.is("judge missing", x.judge(0, 0), -11);
        Due.row(x, 0, 0, 0, 1, 2);
        DUE.is("judge size 3", x.judge(0, 0), BAD);
        Due.row(x, 0, 0, 0);
        DUE.is("judge size 1", x.judge(0, 0), BAD);
        for (int sort = 0; sort < 3; sort++) {
            Due.row(x, 0, sort, 0, 1);
            DUE.is("so it can be", x.judge(0, 0), NONE);
            DUE.is("away", x.judge(1, 0), 10);
            DUE.is("the first post", x.judge(3, 0), 10);
            DUE.is("away", x.judge(2, 0), 11);
            Due.row(x, 0, sort, 0, -1);
            DUE.is("may stand empty", x.judge(0, 0), NONE);
            Due.row(x, 0, sort, -1, 1);
            DUE.is("must be filled", x.judge(0, 0), 30);
            Due.row(x, 0, sort, 1, 1);
            DUE.is("can't", x.judge(0, 0), 20);
            DUE.is("away ahead of can't", x.judge(2, 0), 10);
            Due.row(x, 0, sort, 0, 0);
            DUE.is("at an earlier post", x.judge(0, 0), 11);
            Due.row(x, 0, sort, 3, 0);
            DUE.is("no such one", x.judge(0, 0), 10);
            Due.row(x, 0, sort, 0, -2);
            DUE.is("no such one", x.judge(0, 0), 11);
            Due.row(x, 0, sort, 0, Integer.MIN_VALUE);
            DUE.is("cut to a byte or short it is 0, else no such one", x.judge(0, 0), 11);
            Due.row(x, 0, sort, 0, 100);
            DUE.is("no such one", x.judge(0, 0), 11);
        }
        PostsFilled y = new PostsFilled();
        y.sheet(3, 2, 0);
        DUE.is("no posts", y.judge(0, 3), NONE);
    }

    private static void imageAndBack() {
        PostsFilled x = new PostsFilled();
        x.post(1, 10);
        x.post(1, 10);
        x.person(1, 0);
        x.person(0, 0);
        x.teach(1, 1);
        Due.text(x, "well 1; cost 1; pay 1;");
        x.years(1);
        DUE.is("back without one", x.back(), STATE);
        DUE.is("image", x.image(), 1);
        x.years(2);
        x.force(1);
        x.bar(1, 0, 1);
        x.teach(0, 1);
        x.teach(1, 1);
        x.done(0);
        Due.feed(x, "ab");
        x.sheet(0, 0, 5);
        DUE.is("asked", x.told(1, 0, 6), 1);
        DUE.is("back", x.back(), 1);
        DUE.is("years", x.count(2), 1);
        DUE.is("rule", x.count(5), 0);
        DUE.is("texts stay", x.count(3), 2);
        DUE.is("the tape stays", x.count(4), 2);
        DUE.is("sheets stay", x.cell(0, 4, 1), 1);
        DUE.is("bar", x.told(1, 0, 7), 1);
        DUE.is("asked", x.told(1, 0, 6), 0);
        DUE.is("taught", x.count(7), 1);
        x.years(1);
        DUE.is("taught as it was", x.told(1, 1, 7), 1);
        x.years(1);
        DUE.is("taught as it was", x.told(1, 1, 7), 0);
        x.bar(0, 0, 1);
        DUE.is("back once more", x.back(), 1);
        DUE.is("the image was not touched", x.told(0, 0, 7), 1);
        x.years(5);
        x.force(1);
        x.bar(1, 0, 1);
        x.teach(1, 1);
        x.done(0);
        DUE.is("a new image", x.image(), 6);
        x.force(0);
        x.bar(1, 0, 0);
        DUE.is("back to it", x.back(), 6);
        DUE.is("its rule", x.count(5), 1);
        DUE.is("its bars", x.told(1, 0, 7), 0);
        DUE.is("its asked", x.told(1, 0, 6), 1);
    }

    private static void whoCameSince() {
        PostsFilled x = new PostsFilled();
        x.post(1, 10);
        x.person(0, 0);
        x.image();
        x.post(1, 20);
        x.person(0, 0);
        x.teach(1, 1);
        x.teach(0, 1);
        x.bar(1, 0, 1);
        x.back();
        DUE.is("posts stay", x.count(0), 2);
        DUE.is("people stay", x.count(1), 2);
        DUE.is("what they were taught stays", x.told(1, 1, 7), 1);
        DUE.is("what the others were taught does not", x.told(0, 1, 7), 0);
        DUE.is("their bars stay", x.told(1, 0, 7), 0);
        DUE.is("taught", x.count(7), 1);
    }

    private static void count() {
        PostsFilled x = two();
        x.teach(0, 1);
        x.years(3);
        Due.text(x, "well 1; cost 1; pay 1;");
        Due.text(x, "well 1; cost 1; pay 1;");
        x.force(1);
        x.feed(5, 0);
        int[] want = {2, 2, 3, 3, 5, 1, 1, 1};
        for (int what = 0; what < 8; what++) {
            DUE.is("count(" + what + ")", x.count(what), want[what]);
        }
        DUE.is("count(-1)", x.count(-1), BAD);
        DUE.is("count(8)", x.count(8), BAD);
    }

    public static void main(String[] args) {
        done();
        doneByKind();
        even();
        pay();
        first();
        judge();
        imageAndBack();
        whoCameSince();
        count();
        DUE.end();
    }
}
