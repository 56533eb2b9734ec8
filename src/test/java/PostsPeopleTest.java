/** Promises 1 to 7: a new object, post, person, years, teach, bar, told. */
public final class PostsPeopleTest {
    private static final Due DUE = new Due("PostsPeopleTest");
    private static final int BAD = PostsFilled.BAD, STATE = PostsFilled.STATE, FULL = PostsFilled.FULL;

    private static void newObject() {
        PostsFilled x = new PostsFilled();
        int[] want = {0, 0, 0, 1, 0, 0, 0, 0};
        for (int what = 0; what < 8; what++) {
            DUE.is("new: count(" + what + ")", x.count(what), want[what]);
        }
        DUE.is("new: judge", x.judge(0, 0), -11);
        DUE.is("new: back", x.back(), STATE);
    }

    private static void post() {
        PostsFilled x = new PostsFilled();
        DUE.is("post must -1", x.post(-1, 0), BAD);
        DUE.is("post must 2", x.post(2, 0), BAD);
        DUE.is("post value -1", x.post(1, -1), BAD);
        DUE.is("post value 100", x.post(1, 100), BAD);
        DUE.is("post, refused, is none", x.count(0), 0);
        for (int q = 0; q < 6; q++) {
            DUE.is("post", x.post(q % 2, q == 0 ? 0 : 99), q);
        }
        DUE.is("post seventh", x.post(1, 5), FULL);
        DUE.is("post BAD ahead of FULL", x.post(2, 5), BAD);
        DUE.is("posts", x.count(0), 6);
        DUE.is("posts that must", x.count(6), 3);
    }

    private static void person() {
        PostsFilled x = new PostsFilled();
        DUE.is("person without posts", x.person(0, 0), BAD);
        x.post(1, 5);
        x.post(0, 5);
        DUE.is("person kind -1", x.person(-1, 0), BAD);
        DUE.is("person kind 6", x.person(6, 0), BAD);
        DUE.is("person rest -1", x.person(0, -1), BAD);
        DUE.is("person own 2", x.person(0, 200), BAD);
        DUE.is("person own far", x.person(0, Integer.MAX_VALUE), BAD);
        DUE.is("person", x.person(3, 197), 0);
        int[] want = {3, 1, 9, 7};
        for (int what = 0; what < 4; what++) {
            DUE.is("told " + what, x.told(0, -7, what), want[what]);
        }
        for (int p = 1; p < 7; p++) {
            DUE.is("person", x.person(p - 1, 0), p);
        }
        DUE.is("person eighth", x.person(0, 0), FULL);
        DUE.is("person BAD ahead of FULL", x.person(0, 200), BAD);
        DUE.is("people", x.count(1), 7);
    }

    private static void years() {
        PostsFilled x = new PostsFilled();
        DUE.is("years 0", x.years(0), BAD);
        DUE.is("years 10", x.years(10), BAD);
        DUE.is("years far", x.years(Integer.MAX_VALUE), BAD);
        for (int n = 1; n <= 10; n++) {
            DUE.is("years 9", x.years(9), 9 * n);
        }
        DUE.is("years to 98", x.years(8), 98);
        DUE.is("years beyond", x.years(2), FULL);
        DUE.is("years BAD ahead of FULL", x.years(10), BAD);
        DUE.is("years to 99", x.years(1), 99);
        DUE.is("years beyond 99", x.years(1), FULL);
        DUE.is("years stay", x.count(2), 99);
    }

    private static void teach() {
        PostsFilled x = new PostsFilled();
        x.post(1, 5);
        x.post(1, 5);
        x.post(1, 5);
        x.person(0, 0);
        DUE.is("teach person -1", x.teach(-1, 1), BAD);
        DUE.is("teach person 1", x.teach(1, 1), BAD);
        DUE.is("teach post -1", x.teach(0, -1), BAD);
        DUE.is("teach post 3", x.teach(0, 3), BAD);
        DUE.is("teach own", x.teach(0, 0), STATE);
        x.bar(0, 1, 1);
        DUE.is("teach barred", x.teach(0, 1), STATE);
        DUE.is("refused, nothing was taught", x.count(7), 0);
        x.bar(0, 1, 0);
        DUE.is("teach", x.teach(0, 1), 1);
        DUE.is("teach again", x.teach(0, 1), 1);
        DUE.is("teach another", x.teach(0, 2), 2);
        x.years(2);
        DUE.is("keeps two years", x.told(0, 1, 7), 1);
        DUE.is("teach anew", x.teach(0, 1), 2);
        x.years(1);
        DUE.is("forgot", x.told(0, 2, 7), 0);
        DUE.is("taught anew, knows", x.told(0, 1, 7), 1);
        DUE.is("what is forgotten was taught", x.count(7), 2);
    }

    private static void bar() {
        PostsFilled x = new PostsFilled();
        x.post(1, 5);
        x.person(0, 0);
        DUE.is("bar person", x.bar(1, 0, 1), BAD);
        DUE.is("bar person -1", x.bar(-1, 0, 1), BAD);
        DUE.is("bar post", x.bar(0, 1, 1), BAD);
        DUE.is("bar post -1", x.bar(0, -1, 1), BAD);
        DUE.is("bar is 2", x.bar(0, 0, 2), BAD);
        DUE.is("bar is -1", x.bar(0, 0, -1), BAD);
        DUE.is("bar", x.bar(0, 0, 1), 0);
        DUE.is("bar again", x.bar(0, 0, 1), 1);
        DUE.is("barred from its own", x.told(0, 0, 7), 0);
        DUE.is("unbar", x.bar(0, 0, 0), 1);
        DUE.is("unbarred", x.told(0, 0, 7), 1);
    }

    private static void toldOfKinds() {
        PostsFilled x = new PostsFilled();
        int[] must = {1, 1, 1, 1, 0, 1};
        int[] value = {50, 51, 5, 5, 5, 99};
        for (int q = 0; q < 6; q++) {
            x.post(must[q], value[q]);
        }
        for (int kind = 0; kind < 6; kind++) {
            x.person(kind, 240);
        }
        int[] keeps = {2, 2, 6, 3, 6, 1};
        int[] can = {4, 4 + 2 + 8, 4, 4 + 2 + 8 + 16, 4 + 2 + 32, 4};
        int[] counts = {1, 3, 1, 4, 6, 1};
        for (int p = 0; p < 6; p++) {
            DUE.is("keeps of kind " + p, x.told(p, 99, 4), keeps[p]);
            DUE.is("counts of kind " + p, x.told(p, 99, 5), counts[p]);
            DUE.is("asked of kind " + p, x.told(p, 99, 6), 0);
            for (int q = 0; q < 6; q++) {
                DUE.is("can of kind " + p + " post " + q, x.told(p, q, 7), can[p] >> q & 1);
            }
        }
        x.teach(5, 0);
        DUE.is("half of two", x.told(5, 0, 5), 1);
        x.teach(5, 1);
        DUE.is("half of three, cut up", x.told(5, 0, 5), 2);
        x.teach(1, 0);
        DUE.is("a hand's three at most", x.told(1, 0, 5), 3);
        x.bar(1, 1, 1);
        x.bar(1, 3, 1);
        DUE.is("a hand's two", x.told(1, 0, 5), 2);
    }

    private static void toldOfKeeping() {
        PostsFilled x = new PostsFilled();
        x.post(1, 5);
        x.post(1, 5);
        x.post(1, 5);
        int[] kinds = {0, 1, 2, 3, 4, 5};
        int[] keeps = {2, 2, 5, 3, 5, 1};
        for (int kind : kinds) {
            x.person(kind, 30);
            x.teach(kind, 2);
        }
        for (int year = 1; year <= 7; year++) {
            x.years(1);
            for (int kind : kinds) {
                DUE.is("kind " + kind + " after " + year, x.told(kind, 2, 7), year <= keeps[kind] ? 1 : 0);
            }
        }
    }

    private static void toldOfNone() {
        PostsFilled x = new PostsFilled();
        x.post(1, 5);
        x.person(0, 30);
        DUE.is("told person", x.told(1, 0, 0), -5);
        DUE.is("told person -1", x.told(-1, 0, 0), -5);
        DUE.is("told what -1", x.told(0, 0, -1), -5);
        DUE.is("told what 10", x.told(0, 0, 10), -5);
        for (int what = 0; what <= 6; what++) {
            DUE.is("told without a post " + what, x.told(0, 9, what) >= 0 ? 1 : 0, 1);
        }
        for (int what = 7; what <= 9; what++) {
            DUE.is("told of no post " + what, x.told(0, 1, what), -5);
            DUE.is("told of post -1 " + what, x.told(0, -1, what), -5);
        }
        DUE.is("well of its own", x.told(0, 0, 8), 10);
        DUE.is("cost", x.told(0, 0, 9), 5);
    }

    public static void main(String[] args) {
        newObject();
        post();
        person();
        years();
        teach();
        bar();
        toldOfKinds();
        toldOfKeeping();
        toldOfNone();
        DUE.end();
    }
}
