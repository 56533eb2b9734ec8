/** The boundary cases of promises 1 to 7, and of what "Terms" says of posts, people, kinds and years. */
public final class PeopleEdgesTest {
    private static final Edge E = new Edge("PeopleEdgesTest");
    private static final int BAD = PostsFilled.BAD, STATE = PostsFilled.STATE, FULL = PostsFilled.FULL;
    private static final int FAR = Integer.MAX_VALUE, DEEP = Integer.MIN_VALUE;
    private static final int[] NO_SUCH = {-1, -2, FAR, DEEP};

    private static void posts(PostsFilled x, int n) {
        for (int q = 0; q < n; q++) {
            x.post(1, 5);
        }
    }

    private static void constants() {
        E.is("terms: NONE", PostsFilled.NONE, -1);
        E.is("terms: BAD", PostsFilled.BAD, -2);
        E.is("terms: STATE", PostsFilled.STATE, -3);
        E.is("terms: FULL", PostsFilled.FULL, -4);
        E.is("terms: NO", PostsFilled.NO, -4611686018427387904L);
    }

    // ---- 1: "No POSTS, no PEOPLE; YEAR 0."

    private static void newHasNothing() {
        PostsFilled x = new PostsFilled();
        E.is("1: no posts", x.count(0), 0);
        E.is("1: no people", x.count(1), 0);
        E.is("1: year 0", x.count(2), 0);
        E.is("1: there are texts: TEXT 0 with them", x.count(3), 1);
        E.is("1: no tape", x.count(4), 0);
        E.is("1: TEXT 0 is at first the rule", x.count(5), 0);
        E.is("1: none that must be filled", x.count(6), 0);
        E.is("1: nothing was taught", x.count(7), 0);
        E.is("1: no person 0", x.told(0, 0, 0), -5);
        E.is("1: no post 0", x.fill(0, 0), BAD);
        E.is("1: no image", x.back(), STATE);
        for (int sheet = 0; sheet < 4; sheet++) {
            E.is("1: all sheets are missing at first", x.cell(sheet, 0, 0), -11);
        }
    }

    private static void newIsNotTheOldOne() {
        Edge.made(Edge::full);
        newHasNothing();
    }

    // ---- 2: post

    private static void sixPostsAtMost() {
        PostsFilled x = new PostsFilled();
        for (int q = 0; q < 6; q++) {
            E.is("2: numbered from 0", x.post(1, q), q);
            E.is("2: count of posts", x.count(0), q + 1);
        }
        E.is("2: 6 at most", x.post(1, 6), FULL);
        E.is("2: and again", x.post(0, 0), FULL);
        E.leavesAll("2: FULL", Edge::full, y -> y.post(1, 50), FULL);
    }

    private static void mustIs0Or1() {
        E.leavesAll("2: must -1", Edge::busy, x -> x.post(-1, 5), BAD);
        E.answers("2: must 0", Edge::busy, x -> x.post(0, 5), 3);
        E.answers("2: must 1", Edge::busy, x -> x.post(1, 5), 3);
        E.leavesAll("2: must 2", Edge::busy, x -> x.post(2, 5), BAD);
        E.leavesAll("2: must far", Edge::busy, x -> x.post(FAR, 5), BAD);
        E.leavesAll("2: must deep", Edge::busy, x -> x.post(DEEP, 5), BAD);
        E.answers("2: 0 may stand empty", x -> x.post(0, 5), x -> x.count(6), 0);
        E.answers("2: 1 must be filled", x -> x.post(1, 5), x -> x.count(6), 1);
    }

    private static void valueIs0To99() {
        E.leavesAll("2: value -1", Edge::busy, x -> x.post(1, -1), BAD);
        E.answers("2: value 0", Edge::busy, x -> x.post(1, 0), 3);
        E.answers("2: value 1", Edge::busy, x -> x.post(1, 1), 3);
        E.answers("2: value 98", Edge::busy, x -> x.post(1, 98), 3);
        E.answers("2: value 99", Edge::busy, x -> x.post(1, 99), 3);
        E.leavesAll("2: value 100", Edge::busy, x -> x.post(1, 100), BAD);
        E.leavesAll("2: value far", Edge::busy, x -> x.post(1, FAR), BAD);
        E.leavesAll("2: value deep", Edge::busy, x -> x.post(1, DEEP), BAD);
        for (int value : new int[] {0, 1, 98, 99}) {
            E.answers("2: value " + value + " is kept", x -> {
                x.post(0, value);
                x.person(0, 0);
            }, x -> x.fill(0, -1), 10L * value);
        }
    }

    private static void postBadAheadOfFull() {
        E.leavesAll("2: BAD must ahead of FULL", Edge::full, x -> x.post(2, 5), BAD);
        E.leavesAll("2: BAD value ahead of FULL", Edge::full, x -> x.post(1, 100), BAD);
    }

    // ---- 3: person

    private static void sevenPeopleAtMost() {
        PostsFilled x = new PostsFilled();
        posts(x, 1);
        for (int p = 0; p < 7; p++) {
            E.is("3: numbered from 0", x.person(0, 0), p);
            E.is("3: count of people", x.count(1), p + 1);
        }
        E.is("3: 7 at most", x.person(0, 0), FULL);
        E.leavesAll("3: FULL", Edge::full, y -> y.person(0, 0), FULL);
    }

    private static void kindIs0To5() {
        E.leavesAll("3: kind -1", Edge::busy, x -> x.person(-1, 0), BAD);
        E.leavesAll("3: kind 6", Edge::busy, x -> x.person(6, 0), BAD);
        E.leavesAll("3: kind far", Edge::busy, x -> x.person(FAR, 0), BAD);
        E.leavesAll("3: kind deep", Edge::busy, x -> x.person(DEEP, 0), BAD);
        for (int k = 0; k <= 5; k++) {
            int kind = k;
            E.answers("3: kind " + kind, Edge::busy, x -> x.person(kind, 0), 4);
            E.answers("3: told kind " + kind, x -> {
                x.post(1, 5);
                x.person(kind, 0);
            }, x -> x.told(0, 0, 0), kind);
        }
    }

    private static void rest(int rest, int own, int number, int chance) {
        PostsFilled x = new PostsFilled();
        posts(x, 6);
        E.is("3: rest " + rest, x.person(0, rest), 0);
        E.is("3: own of " + rest, x.told(0, 0, 1), own);
        E.is("3: number of " + rest, x.told(0, 0, 2), number);
        E.is("3: chance of " + rest, x.told(0, 0, 3), chance);
    }

    private static void restIsOwnNumberChance() {
        rest(0, 0, 0, 0);
        rest(1, 0, 0, 1);
        rest(9, 0, 0, 9);
        rest(10, 0, 1, 0);
        rest(11, 0, 1, 1);
        rest(90, 0, 9, 0);
        rest(99, 0, 9, 9);
        rest(100, 1, 0, 0);
        rest(101, 1, 0, 1);
        rest(199, 1, 9, 9);
        rest(500, 5, 0, 0);
        rest(598, 5, 9, 8);
        rest(599, 5, 9, 9);
    }

    private static void ownIsAPost() {
        E.leavesAll("3: without posts, rest 0", Edge::empty, x -> x.person(0, 0), BAD);
        E.leavesAll("3: rest -1", Edge::busy, x -> x.person(0, -1), BAD);
        E.leavesAll("3: rest -100", Edge::busy, x -> x.person(0, -100), BAD);
        E.leavesAll("3: rest deep", Edge::busy, x -> x.person(0, DEEP), BAD);
        E.answers("3: rest 299 of three posts", Edge::busy, x -> x.person(0, 299), 4);
        E.leavesAll("3: rest 300 of three posts", Edge::busy, x -> x.person(0, 300), BAD);
        E.leavesAll("3: rest 399 of three posts", Edge::busy, x -> x.person(0, 399), BAD);
        E.leavesAll("3: rest far", Edge::busy, x -> x.person(0, FAR), BAD);
        E.leavesAll("3: rest 600 of six posts", x -> posts(x, 6), x -> x.person(0, 600), BAD);
        E.answers("3: rest 599 of six posts", x -> posts(x, 6), x -> x.person(0, 599), 0);
    }

    private static void personBadAheadOfFull() {
        E.leavesAll("3: BAD kind ahead of FULL", Edge::full, x -> x.person(6, 0), BAD);
        E.leavesAll("3: BAD rest ahead of FULL", Edge::full, x -> x.person(0, 600), BAD);
        E.leavesAll("3: BAD rest -1 ahead of FULL", Edge::full, x -> x.person(0, -1), BAD);
    }

    // ---- 4: years

    private static void yearsAre1To9() {
        E.leavesAll("4: 0 years", Edge::busy, x -> x.years(0), BAD);
        E.answers("4: 1 year", Edge::busy, x -> x.years(1), 3);
        E.answers("4: 2 years", Edge::busy, x -> x.years(2), 4);
        E.answers("4: 8 years", Edge::busy, x -> x.years(8), 10);
        E.answers("4: 9 years", Edge::busy, x -> x.years(9), 11);
        E.leavesAll("4: 10 years", Edge::busy, x -> x.years(10), BAD);
        E.leavesAll("4: -1 years", Edge::busy, x -> x.years(-1), BAD);
        E.leavesAll("4: far years", Edge::busy, x -> x.years(FAR), BAD);
        E.leavesAll("4: deep years", Edge::busy, x -> x.years(DEEP), BAD);
    }

    private static void at(PostsFilled x, int year) {
        Edge.busy(x);
        for (int n = x.count(2); n < year; n++) {
            x.years(1);
        }
    }

    private static void notBeyond99() {
        E.answers("4: 97 and 1", x -> at(x, 97), x -> x.years(1), 98);
        E.answers("4: 97 and 2", x -> at(x, 97), x -> x.years(2), 99);
        E.leavesAll("4: 97 and 3", x -> at(x, 97), x -> x.years(3), FULL);
        E.answers("4: 90 and 9", x -> at(x, 90), x -> x.years(9), 99);
        E.leavesAll("4: 91 and 9", x -> at(x, 91), x -> x.years(9), FULL);
        E.answers("4: 98 and 1", x -> at(x, 98), x -> x.years(1), 99);
        E.leavesAll("4: 99 and 1", x -> at(x, 99), x -> x.years(1), FULL);
        E.leavesAll("4: BAD ahead of FULL, 0", x -> at(x, 99), x -> x.years(0), BAD);
        E.leavesAll("4: BAD ahead of FULL, 10", x -> at(x, 99), x -> x.years(10), BAD);
    }

    // ---- 5: teach

    private static void teachRefuses() {
        for (int no : NO_SUCH) {
            E.leavesAll("5: person " + no, Edge::busy, x -> x.teach(no, 1), BAD);
            E.leavesAll("5: post " + no, Edge::busy, x -> x.teach(0, no), BAD);
        }
        E.answers("5: the last one", Edge::busy, x -> x.teach(3, 2), 1);
        E.leavesAll("5: one more", Edge::busy, x -> x.teach(4, 2), BAD);
        E.answers("5: the last post", Edge::busy, x -> x.teach(0, 2), 2);
        E.leavesAll("5: a post more", Edge::busy, x -> x.teach(0, 3), BAD);
        E.leavesAll("5: barred from it", Edge::busy, x -> x.teach(3, 1), STATE);
        E.leavesAll("5: barred, though taught before", x -> {
            Edge.busy(x);
            x.bar(1, 1, 1);
        }, x -> x.teach(1, 1), STATE);
        E.leavesAll("5: its own", Edge::busy, x -> x.teach(0, 1), STATE);
        E.leavesAll("5: its own, and barred", x -> {
            Edge.busy(x);
            x.bar(0, 1, 1);
        }, x -> x.teach(0, 1), STATE);
        E.answers("5: not barred any more", x -> {
            Edge.busy(x);
            x.bar(3, 1, 0);
        }, x -> x.teach(3, 1), 2);
        E.leavesAll("5: no such one, ahead of its own", Edge::busy, x -> x.teach(4, 1), BAD);
    }

    private static void teachAnew() {
        PostsFilled x = new PostsFilled();
        posts(x, 6);
        x.person(5, 0);
        for (int q = 1; q < 6; q++) {
            E.is("5: how many posts it was taught", x.teach(0, q), q);
        }
        E.is("5: anew is no post more", x.teach(0, 1), 5);
        E.is("5: all but its own", x.count(7), 5);
        x.years(1);
        E.is("5: anew", x.teach(0, 2), 5);
        x.years(1);
        E.is("5: the one taught anew is kept", x.told(0, 2, 7), 1);
        E.is("5: the others are not", x.told(0, 3, 7), 0);
        E.is("5: what is forgotten was taught still", x.teach(0, 3), 5);
        E.is("5: what one can do by kind may be taught", Edge.made(Edge::busy).teach(0, 2), 2);
    }

    // ---- 6: bar

    private static void barRefuses() {
        for (int no : NO_SUCH) {
            E.leavesAll("6: person " + no, Edge::busy, x -> x.bar(no, 1, 1), BAD);
            E.leavesAll("6: post " + no, Edge::busy, x -> x.bar(0, no, 1), BAD);
            E.leavesAll("6: is " + no, Edge::busy, x -> x.bar(0, 0, no), BAD);
        }
        E.leavesAll("6: is 2", Edge::busy, x -> x.bar(0, 0, 2), BAD);
        E.answers("6: the last one", Edge::busy, x -> x.bar(3, 0, 1), 0);
        E.leavesAll("6: one more", Edge::busy, x -> x.bar(4, 0, 1), BAD);
        E.answers("6: the last post", Edge::busy, x -> x.bar(0, 2, 1), 0);
        E.leavesAll("6: a post more", Edge::busy, x -> x.bar(0, 3, 1), BAD);
    }

    private static void barAnswersWhatItWas() {
        E.leavesAll("6: 0 to 0", Edge::busy, x -> x.bar(0, 0, 0), 0);
        E.answers("6: 0 to 1", Edge::busy, x -> x.bar(0, 0, 1), 0);
        E.answers("6: 1 to 0", Edge::busy, x -> x.bar(3, 1, 0), 1);
        E.leavesAll("6: 1 to 1", Edge::busy, x -> x.bar(3, 1, 1), 1);
        E.answers("6: a bar is of one post", Edge::busy, x -> x.bar(3, 0, 0), 0);
        E.answers("6: a bar is of one person", Edge::busy, x -> x.bar(2, 1, 0), 0);
        E.leavesAll("6: to and fro leaves all", Edge::busy, x -> x.bar(0, 0, 1) + x.bar(0, 0, 0), 1);
    }

    private static void notBarredAtFirst() {
        PostsFilled x = new PostsFilled();
        posts(x, 6);
        for (int p = 0; p < 7; p++) {
            x.person(p % 6, 0);
            for (int q = 0; q < 6; q++) {
                E.is("6: not barred at first", x.bar(p, q, 0), 0);
            }
        }
    }

    private static void barredCanNotByAnyReason() {
        PostsFilled x = new PostsFilled();
        x.post(1, 50);
        x.post(0, 51);
        for (int kind = 0; kind < 6; kind++) {
            x.person(kind, 0);
            x.teach(kind, 1);
            E.is("6: it can, kind " + kind, x.told(kind, 1, 7), 1);
            x.bar(kind, 1, 1);
            E.is("6: barred from a post taught, beside, empty, of value: kind " + kind, x.told(kind, 1, 7), 0);
            x.bar(kind, 0, 1);
            E.is("6: barred from its own: kind " + kind, x.told(kind, 0, 7), 0);
            x.bar(kind, 1, 0);
            E.is("6: and not any more: kind " + kind, x.told(kind, 1, 7), 1);
        }
    }

    // ---- 7: told, KEEPS, CAN, COUNTS

    private static void toldRefuses() {
        for (int no : NO_SUCH) {
            E.leavesAll("7: person " + no, Edge::busy, x -> x.told(no, 1, 0), -5);
            E.leavesAll("7: what " + no, Edge::busy, x -> x.told(0, 1, no), -5);
            for (int w = 0; w < 10; w++) {
                int what = w;
                E.answers("7: post " + no + " of " + what + " is -5 from 7 on", Edge::busy,
                        x -> x.told(0, no, what) == -5 ? 1 : 0, what >= 7 ? 1 : 0);
            }
        }
        E.answers("7: the last one", Edge::busy, x -> x.told(3, 0, 0), 0);
        E.answers("7: one more", Edge::busy, x -> x.told(4, 0, 0), -5);
        E.answers("7: what 9", Edge::busy, x -> x.told(0, 0, 9), 8);
        E.answers("7: what 10", Edge::busy, x -> x.told(0, 0, 10), -5);
        E.answers("7: what 6, a post more", Edge::busy, x -> x.told(3, 3, 6), 0);
        E.answers("7: what 7, the last post", Edge::busy, x -> x.told(3, 2, 7), 1);
        E.answers("7: what 7, a post more", Edge::busy, x -> x.told(3, 3, 7), -5);
        E.answers("7: without people", Edge::empty, x -> x.told(0, 0, 0), -5);
        for (int w = 0; w < 10; w++) {
            int what = w;
            long now = Edge.made(Edge::busy).told(0, 1, what);
            E.leavesAll("7: told " + what, Edge::busy, x -> x.told(0, 1, what), now);
        }
    }

    private static void keeps(int kind, int number, int years) {
        PostsFilled x = new PostsFilled();
        posts(x, 3);
        x.person(kind, 10 * number);
        E.is("7: keeps of kind " + kind + ", number " + number, x.told(0, 0, 4), years);
        x.teach(0, 2);
        for (int n = 0; n <= years + 1; n++) {
            E.is("7: kind " + kind + ", number " + number + " can after " + n, x.told(0, 2, 7), n <= years ? 1 : 0);
            E.is("7: kind " + kind + ", number " + number + " keeps after " + n, x.first(), n <= years ? 2 : -1);
            x.years(1);
        }
    }

    private static void keepsByKind() {
        for (int number : new int[] {0, 1, 9}) {
            keeps(0, number, 2);
            keeps(1, number, 2);
            keeps(2, number, 2 + number);
            keeps(3, number, 3);
            keeps(4, number, 2 + number);
            keeps(5, number, 1);
        }
    }

    /** Which of six posts, that must be filled and are of a value, one can do. */
    private static int canOf(int kind, int own, int must, int value) {
        PostsFilled x = new PostsFilled();
        for (int q = 0; q < 6; q++) {
            x.post(must, value);
        }
        x.person(kind, 100 * own);
        int can = 0;
        for (int q = 0; q < 6; q++) {
            can |= x.told(0, q, 7) << q;
        }
        return can;
    }

    private static void canByKind() {
        for (int own = 0; own < 6; own++) {
            int alone = 1 << own;
            int beside = (alone | alone << 1 | alone >> 1) & 63;
            E.is("7: a person its own", canOf(0, own, 1, 99), alone);
            E.is("7: a person, none because it may stand empty", canOf(0, own, 0, 99), alone);
            E.is("7: a hand, 1 more and 1 less", canOf(1, own, 1, 99), beside);
            E.is("7: a hand, none because it may stand empty", canOf(1, own, 0, 99), beside);
            E.is("7: a clerk", canOf(2, own, 0, 99), alone);
            E.is("7: a porter as a hand", canOf(3, own, 1, 99), beside);
            E.is("7: a porter, what may stand empty", canOf(3, own, 0, 0), 63);
            E.is("7: a chief, value 49", canOf(4, own, 0, 49), alone);
            E.is("7: a chief, value 50", canOf(4, own, 1, 50), alone);
            E.is("7: a chief, value 51", canOf(4, own, 1, 51), 63);
            E.is("7: a chief is not beside", canOf(4, own, 1, 0), alone);
            E.is("7: a new one", canOf(5, own, 0, 99), alone);
        }
    }

    /** COUNTS of one of a kind who can do so many of six posts that must be filled. */
    private static int countsOf(int kind, int able) {
        PostsFilled x = new PostsFilled();
        posts(x, 6);
        x.person(kind, 0);
        for (int q = 1; q < 6; q++) {
            x.teach(0, q);
        }
        for (int q = able; q < 6; q++) {
            x.bar(0, q, 1);
        }
        return x.told(0, 0, 5);
    }

    private static void countsByKind() {
        int[][] want = {
            {0, 1, 2, 3, 4, 5, 6},
            {0, 1, 2, 3, 3, 3, 3},
            {0, 1, 2, 3, 4, 5, 6},
            {1, 2, 3, 4, 4, 4, 4},
            {0, 2, 4, 6, 8, 10, 12},
            {0, 1, 1, 2, 2, 3, 3},
        };
        for (int kind = 0; kind < 6; kind++) {
            for (int able = 0; able <= 6; able++) {
                E.is("7: counts of kind " + kind + " who can do " + able, countsOf(kind, able), want[kind][able]);
            }
        }
    }

    private static void countsOnlyPostsThereAre() {
        PostsFilled x = new PostsFilled();
        x.post(0, 99);
        x.person(3, 0);
        x.person(4, 0);
        E.is("7: a porter counts one post, and 1 more", x.told(0, 0, 5), 2);
        E.is("7: a chief counts one post twice", x.told(1, 0, 5), 2);
        x.post(0, 99);
        E.is("7: a post more", x.told(0, 0, 5), 3);
        E.is("7: a post more", x.told(1, 0, 5), 4);
    }

    public static void main(String[] args) {
        constants();
        newHasNothing();
        newIsNotTheOldOne();
        sixPostsAtMost();
        mustIs0Or1();
        valueIs0To99();
        postBadAheadOfFull();
        sevenPeopleAtMost();
        kindIs0To5();
        restIsOwnNumberChance();
        ownIsAPost();
        personBadAheadOfFull();
        yearsAre1To9();
        notBeyond99();
        teachRefuses();
        teachAnew();
        barRefuses();
        barAnswersWhatItWas();
        notBarredAtFirst();
        barredCanNotByAnyReason();
        toldRefuses();
        keepsByKind();
        canByKind();
        countsByKind();
        countsOnlyPostsThereAre();
        E.end();
    }
}
