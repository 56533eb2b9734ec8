/** The boundary cases of promises 11 to 17, and of what part 2 of the document says of fillings. */
public final class FillingEdgesTest {
    private static final Edge E = new Edge("FillingEdgesTest");
    private static final int NONE = PostsFilled.NONE, BAD = PostsFilled.BAD, STATE = PostsFilled.STATE;
    private static final int FAR = Integer.MAX_VALUE, DEEP = Integer.MIN_VALUE;

    /** Posts by must and value, two by two. */
    private static void posts(PostsFilled x, int... mustAndValue) {
        for (int i = 0; i + 1 < mustAndValue.length; i += 2) {
            x.post(mustAndValue[i], mustAndValue[i + 1]);
        }
    }

    /** People of KIND 0 by their own posts. */
    private static void people(PostsFilled x, int... own) {
        for (int post : own) {
            x.person(0, 100 * post);
        }
    }

    private static PostsFilled with(Edge.Making making) {
        return Edge.made(making);
    }

    private static void musts(PostsFilled x, int n) {
        for (int q = 0; q < n; q++) {
            x.post(1, 5);
        }
    }

    // ---- bits of people: fill, few, done, judge refuse those that are not there

    private static void bitsOfPeople() {
        for (int n = 0; n <= 7; n++) {
            int many = n;
            Edge.Making making = x -> {
                posts(x, 0, 5);
                people(x, new int[many]);
                x.sheet(0, 0, 1);
                x.cell(0, 0, -1);
            };
            int all = (1 << n) - 1;
            for (int bits : new int[] {0, all / 2, all}) {
                E.answers("11: bits " + bits + " of " + n, making, x -> x.fill(bits, -1) >= 0 ? 1 : 0, 1);
                E.answers("12: bits " + bits + " of " + n, making, x -> x.few(bits), NONE);
                E.answers("18: bits " + bits + " of " + n, making, x -> x.done(bits) >= 0 ? 1 : 0, 1);
                E.answers("22: bits " + bits + " of " + n, making, x -> x.judge(bits, 0), NONE);
            }
            for (int bits : new int[] {-1, all + 1, all + 2, 1 << 30, FAR, DEEP}) {
                E.leavesAll("11: bits " + bits + " of " + n, making, x -> x.fill(bits, -1), BAD);
                E.leavesAll("12: bits " + bits + " of " + n, making, x -> x.few(bits), BAD);
                E.leavesAll("18: bits " + bits + " of " + n, making, x -> x.done(bits), BAD);
                E.leavesAll("22: bits " + bits + " of " + n, making, x -> x.judge(bits, 0), BAD);
            }
        }
    }

    // ---- 11: fill

    private static void fillRefuses() {
        for (int no : new int[] {-2, 3, 6, FAR, DEEP}) {
            E.leavesAll("11: post " + no, Edge::busy, x -> x.fill(0, no), BAD);
        }
        E.leavesAll("11: post NONE", Edge::busy, x -> x.fill(0, NONE), with(Edge::busy).fill(0, NONE));
        E.leavesAll("11: post 0", Edge::busy, x -> x.fill(0, 0), with(Edge::busy).fill(0, 0));
        E.leavesAll("11: the last post", Edge::busy, x -> x.fill(0, 2), with(Edge::busy).fill(0, 2));
        E.leavesAll("11: there is none", Edge::busy, x -> x.fill(15, 0), STATE);
        E.leavesAll("11: there is none, of post NONE", Edge::busy, x -> x.fill(15, NONE), STATE);
        E.leavesAll("11: there is none, of a post that may stand empty", Edge::busy, x -> x.fill(15, 1), STATE);
        E.leavesAll("11: BAD post ahead of STATE", Edge::busy, x -> x.fill(15, 3), BAD);
        E.leavesAll("11: BAD people ahead of STATE", Edge::busy, x -> x.fill(31, 0), BAD);
        E.answers("11: without posts it comes to 0", Edge::empty, x -> x.fill(0, NONE), 0);
        E.answers("11: without posts there is no post 0", Edge::empty, x -> x.fill(0, 0), BAD);
    }

    private static void eachThatMustHasOne() {
        PostsFilled x = with(y -> {
            posts(y, 1, 0, 0, 99);
            people(y, 1);
            y.teach(0, 0);
        });
        E.is("11: at the one that must, though it comes to nothing", x.fill(0, 0), 0);
        E.is("11: and nobody at the other", x.fill(0, 1), NONE);
        E.is("11: it comes to nothing", x.fill(0, NONE), 0);
        E.is("11: none, if it is away", x.fill(1, 0), STATE);
        x.bar(0, 0, 1);
        E.is("11: none, if it is barred", x.fill(0, 0), STATE);
    }

    private static void nobodyAtTwo() {
        PostsFilled x = with(y -> {
            posts(y, 1, 5, 1, 5);
            people(y, 0);
            y.teach(0, 1);
        });
        E.is("11: one for two that must", x.fill(0, NONE), STATE);
        people(x, 1);
        E.is("11: two for two", x.fill(0, NONE), 100);
        PostsFilled z = with(y -> {
            posts(y, 0, 5, 0, 6);
            people(y, 0);
            y.teach(0, 1);
        });
        E.is("11: one of two that may stand empty", z.fill(0, NONE), 50);
    }

    private static void ofLikeOnesNobodyFirst() {
        PostsFilled x = with(y -> {
            posts(y, 0, 0, 0, 1);
            people(y, 0, 1);
        });
        E.is("11: value 0: nobody first", x.fill(0, 0), NONE);
        E.is("11: value 1: it comes to more", x.fill(0, 1), 1);
        PostsFilled z = with(y -> {
            posts(y, 0, 10, 0, 10);
            people(y, 0);
            Due.text(y, "well 3;cost 1;pay 1;");
            y.force(1);
            y.teach(0, 1);
        });
        E.is("11: one for two alike: nobody at the first of them", z.fill(0, 0), NONE);
        E.is("11: one for two alike: it is at the second", z.fill(0, 1), 0);
        PostsFilled w = with(y -> {
            posts(y, 0, 99);
            people(y, 0);
            Due.text(y, "well 0;cost 1;pay 1;");
            y.force(1);
        });
        E.is("11: well 0: nobody first", w.fill(0, 0), NONE);
    }

    private static void ofLikeOnesThenTheLeast() {
        PostsFilled x = with(y -> {
            posts(y, 1, 5, 1, 5);
            people(y, 1, 0, 1, 0);
        });
        E.is("11: the least who can", x.fill(0, 0), 1);
        E.is("11: the least who can", x.fill(0, 1), 0);
        E.is("11: the least who is not away", x.fill(3, 0), 3);
        E.is("11: the least who is not away", x.fill(3, 1), 2);
        PostsFilled z = with(y -> {
            posts(y, 1, 5, 1, 5);
            people(y, 1, 0);
            Due.text(y, "well 3;cost 1;pay 1;");
            y.force(1);
            y.teach(0, 0);
            y.teach(1, 1);
        });
        E.is("11: the first by posts: the least at post 0", z.fill(0, 0), 0);
        E.is("11: the other at post 1", z.fill(0, 1), 1);
        z.force(0);
        E.is("11: if each does its own better, that comes to more", z.fill(0, 0), 1);
        E.is("11: if each does its own better", z.fill(0, 1), 0);
    }

    private static void sixPostsSevenPeople() {
        PostsFilled x = with(y -> {
            posts(y, 1, 99, 1, 99, 1, 99, 1, 99, 1, 99, 1, 99);
            people(y, 5, 4, 3, 2, 1, 0, 0);
            Due.text(y, "well 99;cost 1;pay 1;");
            y.force(1);
        });
        E.is("11: six posts of value 99, each done 99 well", x.fill(0, NONE), 6 * 99 * 99);
        E.is("11: the least of two", x.fill(0, 0), 5);
        E.is("11: the other", x.fill(32, 0), 6);
        E.is("11: post 5", x.fill(0, 5), 0);
        E.is("11: none without both", x.fill(96, 0), STATE);
        E.is("11: none without the only one", x.fill(1, 0), STATE);
    }

    // ---- 12: few

    private static void fewAnswers() {
        E.leavesAll("12: busy", Edge::busy, x -> x.few(0), NONE);
        E.leavesAll("12: all away", Edge::busy, x -> x.few(15), 1);
        E.answers("12: without posts", Edge::empty, x -> x.few(0), NONE);
        E.answers("12: only posts that may stand empty", x -> posts(x, 0, 5, 0, 5), x -> x.few(0), NONE);
        E.answers("12: post 5 alone must be", x -> posts(x, 0, 5, 0, 5, 0, 5, 0, 5, 0, 5, 1, 5), x -> x.few(0), 32);
    }

    /** So many who can do all six posts. */
    private static void allRound(PostsFilled x, int posts, int many) {
        musts(x, posts);
        for (int p = 0; p < many; p++) {
            x.person(0, 0);
            for (int q = 1; q < posts; q++) {
                x.teach(p, q);
            }
        }
    }

    private static void fewerPeopleThanPosts() {
        for (int n = 1; n <= 6; n++) {
            int posts = n;
            for (int m = 0; m <= 7; m++) {
                int many = m;
                int want = m >= n ? NONE : (1 << m + 1) - 1;
                E.answers("12: " + m + " for " + n, x -> allRound(x, posts, many), x -> x.few(0), want);
            }
        }
    }

    private static void leastManyThenLeastAsBits() {
        PostsFilled x = with(y -> {
            musts(y, 4);
            people(y, 0, 3);
            y.teach(0, 1);
        });
        E.is("12: one post without people ahead of two with one", x.few(0), 4);
        x.person(0, 200);
        E.is("12: two with one", x.few(0), 3);
        x.teach(2, 3);
        x.bar(1, 3, 1);
        E.is("12: of two such the least as bits", x.few(0), 3);
        x.person(0, 100);
        E.is("12: the other one", x.few(0), 12);
        E.is("12: without the last", x.few(8), 3);
        E.is("12: without the one of 2 and 3: the least post", x.few(4), 4);
    }

    private static void fewIsNoneWhenThereIsAFilling() {
        for (int away = 0; away < 16; away++) {
            PostsFilled x = with(Edge::busy);
            E.is("12: a filling or too few, " + away, x.few(away) == NONE ? 1 : 0, x.fill(away, NONE) == STATE ? 0 : 1);
        }
    }

    // ---- 13: holds

    private static void holdsRefuses() {
        for (int no : new int[] {-1, 8, 9, FAR, DEEP}) {
            E.leavesAll("13: many " + no, Edge::busy, x -> x.holds(no), BAD);
            E.leavesAll("14: many " + no, Edge::busy, x -> x.worst(no, 0), BAD);
            E.leavesAll("14: lack, many " + no, Edge::busy, x -> x.worst(no, 1), BAD);
        }
        for (int m = 0; m <= 7; m++) {
            int many = m;
            E.answers("13: many " + m + " is none too many", Edge::empty, x -> x.holds(many), 1);
            E.leavesAll("13: asking " + m, Edge::busy, x -> x.holds(many), with(Edge::busy).holds(m));
        }
    }

    private static void holdsTill() {
        for (int n = 1; n <= 7; n++) {
            int people = n;
            for (int m = 0; m <= 7; m++) {
                int many = m;
                Edge.Making making = x -> allRound(x, 2, people);
                int want = m > n || n - m >= 2 ? 1 : 0;
                E.answers("13: " + n + " people for two posts, any " + m + " away", making, x -> x.holds(many), want);
                int bits = want == 1 ? NONE : (1 << m) - 1;
                E.answers("14: worst " + m + " of " + n, making, x -> x.worst(many, 0), bits);
                int lack = m > n || n - m < 2 ? NONE : (1 << m) - 1;
                E.answers("14: lack of " + m + " of " + n, making, x -> x.worst(many, 1), lack);
            }
        }
        E.answers("13: what may stand empty needs nobody", x -> {
            posts(x, 0, 5, 1, 5);
            people(x, 1, 1);
        }, x -> x.holds(1), 1);
        E.answers("13: nobody away, but there is none", x -> musts(x, 1), x -> x.holds(0), 0);
        E.answers("13: one away of nobody", x -> musts(x, 1), x -> x.holds(1), 1);
    }

    // ---- 14: worst

    private static void worstRefuses() {
        for (int no : new int[] {-1, 2, FAR, DEEP}) {
            E.leavesAll("14: what " + no, Edge::busy, x -> x.worst(1, no), BAD);
        }
        E.leavesAll("14: what 0", Edge::busy, x -> x.worst(2, 0), with(Edge::busy).worst(2, 0));
        E.leavesAll("14: what 1", Edge::busy, x -> x.worst(2, 1), with(Edge::busy).worst(2, 1));
    }

    private static void leastAsBits() {
        PostsFilled x = with(y -> {
            musts(y, 2);
            people(y, 0, 1, 0, 1);
        });
        E.is("14: no one whose lack leaves none", x.worst(1, 0), NONE);
        E.is("14: 0 and 2, ahead of 1 and 3", x.worst(2, 0), 5);
        E.is("14: three: 0, 1, 2", x.worst(3, 0), 7);
        E.is("14: all four", x.worst(4, 0), 15);
        E.is("14: five there are not", x.worst(5, 0), NONE);
        x.person(0, 0);
        E.is("14: two: 1 and 3", x.worst(2, 0), 10);
    }

    private static void lackComesToLeast() {
        PostsFilled x = with(y -> {
            posts(y, 1, 10, 0, 30, 0, 30, 0, 20);
            people(y, 0, 1, 2, 3);
        });
        E.is("14: none may be lacking of the one that must; of like ones the least", x.worst(1, 1), 2);
        E.is("14: two of value 30", x.worst(2, 1), 6);
        E.is("14: three", x.worst(3, 1), 14);
        E.is("14: four leave none", x.worst(4, 1), NONE);
        E.is("14: nobody", x.worst(0, 1), 0);
        E.is("14: nobody leaves none", x.worst(0, 0), NONE);
        x.bar(0, 0, 1);
        E.is("14: if there is no filling at all", x.worst(0, 1), NONE);
        E.is("14: if there is no filling at all, nobody is the worst", x.worst(0, 0), 0);
        E.is("14: of one the least", x.worst(1, 0), 1);
    }

    private static void lackIsNotTheFirst() {
        PostsFilled x = with(y -> {
            posts(y, 0, 30, 0, 40, 0, 50, 0, 40);
            people(y, 0, 1, 2, 3);
        });
        E.is("14: the third of four", x.worst(1, 1), 4);
        E.is("14: of like ones the least as bits", x.worst(2, 1), 6);
        E.is("14: all but the first", x.worst(3, 1), 14);
        E.is("14: all may be away", x.worst(4, 1), 15);
        E.is("14: five there are not", x.worst(5, 1), NONE);
        E.is("14: none leaves no filling", x.worst(4, 0), NONE);
        PostsFilled z = with(y -> {
            posts(y, 0, 50, 0, 40);
            people(y, 0, 1);
        });
        E.is("14: the first, though a later one comes to more", z.worst(1, 1), 1);
        PostsFilled w = with(y -> {
            posts(y, 0, 5);
            people(y, new int[7]);
        });
        E.is("14: seven of seven", w.worst(7, 1), 127);
        E.is("14: six of seven, of like ones the least as bits", w.worst(6, 1), 63);
        E.is("14: seven of seven leave no filling", with(y -> {
            musts(y, 1);
            people(y, new int[7]);
        }).worst(7, 0), 127);
    }

    // ---- 15: lessons

    private static void lessonsRefuses() {
        for (int no : new int[] {-1, 3, 7, FAR, DEEP}) {
            E.leavesAll("15: many " + no, Edge::busy, x -> x.lessons(no, 0), BAD);
            E.leavesAll("15: what " + no, Edge::busy, x -> x.lessons(0, no), BAD);
        }
        for (int m = 0; m <= 2; m++) {
            int many = m;
            for (int w = 0; w <= 2; w++) {
                int what = w;
                E.leavesAll("15: asking " + m + ", " + w, Edge::busy, x -> x.lessons(many, what),
                        with(Edge::busy).lessons(m, w));
            }
        }
    }

    private static void lessons(String name, Edge.Making making, int many, int found, int cost, int which) {
        E.answers("15: " + name + ", how many", making, x -> x.lessons(many, 0), found);
        E.answers("15: " + name + ", cost", making, x -> x.lessons(many, 1), cost);
        E.answers("15: " + name + ", which", making, x -> x.lessons(many, 2), which);
    }

    private static void twoAtMost() {
        int[][] want = {{}, {0, 0, 0}, {1, 8, 1}, {2, 16, 112}, {NONE, NONE, NONE}, {NONE, NONE, NONE}};
        for (int n = 1; n <= 5; n++) {
            int posts = n;
            lessons(n + " posts, all of post 0", x -> {
                musts(x, posts);
                people(x, new int[7]);
            }, 0, want[n][0], want[n][1], want[n][2]);
        }
        for (int many = 0; many <= 2; many++) {
            int found = many + 1 <= 2 ? many + 1 : NONE;
            int which = many == 0 ? 1 : many == 1 ? 111 : NONE;
            lessons("two posts, any " + many + " away", x -> {
                musts(x, 2);
                people(x, new int[7]);
            }, many, found, found == NONE ? NONE : 8 * found, which);
        }
    }

    private static void noSuchManyAreAway() {
        lessons("one away of nobody", x -> musts(x, 1), 1, 0, 0, 0);
        lessons("nobody away of nobody", x -> musts(x, 1), 0, NONE, NONE, NONE);
        lessons("two away of one", x -> {
            musts(x, 1);
            people(x, 0);
        }, 2, 0, 0, 0);
        lessons("one away of one", x -> {
            musts(x, 1);
            people(x, 0);
        }, 1, NONE, NONE, NONE);
        lessons("two away of two", x -> {
            musts(x, 1);
            people(x, 0, 0);
        }, 2, NONE, NONE, NONE);
        lessons("two away of three", x -> {
            musts(x, 1);
            people(x, 0, 0, 0);
        }, 2, 0, 0, 0);
        lessons("nothing must be", x -> {
            posts(x, 0, 5);
            people(x, 0);
        }, 1, 0, 0, 0);
    }

    private static void fewestAheadOfCheapest() {
        lessons("one dear lesson, rather than two cheap ones", x -> {
            posts(x, 1, 95, 1, 0);
            people(x, 1, 1);
        }, 0, 1, 98, 0);
    }

    private static void cheapestThenFirst() {
        Edge.Making three = x -> {
            posts(x, 1, 10, 1, 20);
            x.person(0, 0);
            x.person(0, 10);
            x.person(0, 10);
        };
        lessons("the cheapest, of like ones the first", three, 0, 1, 22, 11);
        lessons("two: the cheapest together", three, 1, 2, 44, 1121);
        lessons("not of the barred", x -> {
            three.of(x);
            x.bar(1, 1, 1);
        }, 0, 1, 22, 21);
        lessons("two, not of the barred", x -> {
            three.of(x);
            x.bar(1, 1, 1);
        }, 1, 2, 45, 121);
        lessons("one of all is enough, if one more can do it", x -> {
            three.of(x);
            x.teach(1, 1);
        }, 1, 1, 22, 21);
        lessons("the cheapest, though dearer ones come behind", x -> {
            posts(x, 1, 10, 1, 20);
            x.person(0, 20);
            x.person(0, 10);
            x.person(0, 0);
        }, 0, 1, 21, 1);
        lessons("two: the cheapest together, though dearer ones come behind", x -> {
            posts(x, 1, 10, 1, 20);
            x.person(0, 20);
            x.person(0, 10);
            x.person(0, 0);
        }, 1, 2, 43, 111);
        lessons("one who does the one post already is no help for both", x -> {
            musts(x, 2);
            people(x, 0);
        }, 0, NONE, NONE, NONE);
        lessons("two lessons of one are no two people", x -> {
            musts(x, 3);
            people(x, 0, 0);
        }, 0, NONE, NONE, NONE);
        lessons("by people ahead of posts", x -> {
            posts(x, 1, 5, 1, 5, 1, 5);
            people(x, 0, 0, 1);
        }, 0, 1, 8, 2);
        lessons("the first lesson ahead", x -> {
            posts(x, 1, 5, 1, 5, 1, 5);
            people(x, 0, 0, 0);
        }, 0, 2, 16, 112);
        lessons("what a lesson is forgotten of costs again", x -> {
            posts(x, 1, 5, 1, 7);
            people(x, 0, 0);
            x.teach(1, 1);
            x.years(3);
        }, 0, 1, 10, 1);
    }

    /** What was asked before is no part of what is asked now. */
    private static void askedAgainAfterAChange() {
        PostsFilled x = with(y -> {
            posts(y, 1, 10, 1, 20);
            y.person(0, 20);
            y.person(0, 10);
            y.person(0, 0);
        });
        E.is("15: the cheapest", x.lessons(0, 2), 1);
        x.bar(0, 1, 1);
        E.is("15: if it is barred since, the next", x.lessons(0, 2), 11);
        x.bar(1, 1, 1);
        E.is("15: and the next", x.lessons(0, 2), 21);
        x.bar(2, 1, 1);
        E.is("15: and none", x.lessons(0, 0), NONE);
        x.bar(1, 1, 0);
        E.is("15: not barred any more", x.lessons(0, 1), 22);
        x.teach(1, 1);
        E.is("15: taught", x.lessons(0, 0), 0);
        E.is("15: taught, which", x.lessons(0, 2), 0);
        x.years(3);
        E.is("15: forgotten", x.lessons(0, 2), 11);
        PostsFilled z = with(y -> {
            posts(y, 1, 10, 1, 20);
            y.person(0, 0);
            y.person(0, 0);
            y.person(0, 20);
        });
        E.is("15: two, the cheapest together", z.lessons(1, 2), 121);
        z.bar(2, 1, 1);
        E.is("15: two, if one is barred since", z.lessons(1, 2), 111);
        E.is("15: and what they cost", z.lessons(1, 1), 46);
        z.bar(1, 1, 1);
        E.is("15: two are too few", z.lessons(1, 0), NONE);
    }

    private static void costsAreBound() {
        lessons("cost, the greatest", x -> {
            posts(x, 1, 99, 1, 99, 1, 99);
            people(x, 0, 0, 0);
        }, 0, 2, 198, 112);
        lessons("cost, the least", x -> {
            posts(x, 1, 0, 1, 0, 1, 0);
            x.person(0, 90);
            x.person(0, 90);
            x.person(0, 90);
        }, 0, 2, 2, 112);
    }

    private static void greatestNumbers() {
        lessons("the last people, the last posts", x -> {
            musts(x, 6);
            people(x, 0, 1, 2, 3, 3, 3, 3);
            for (int p = 0; p < 5; p++) {
                x.bar(p, 4, 1);
                x.bar(p, 5, 1);
            }
            x.bar(6, 4, 1);
        }, 0, 2, 16, 5465);
    }

    // ---- 16: ring

    private static void ringAnswers() {
        E.leavesAll("16: ring", Edge::busy, PostsFilled::ring, with(Edge::busy).ring());
        E.answers("16: without posts and people", Edge::empty, PostsFilled::ring, 0);
        E.answers("16: not even nobody", x -> musts(x, 1), PostsFilled::ring, NONE);
        for (int n = 1; n <= 7; n++) {
            int many = n;
            E.answers("16: all of " + n + " for one post: all but one", x -> {
                musts(x, 1);
                people(x, new int[many]);
            }, PostsFilled::ring, n - 1);
            E.answers("16: nothing must be: all " + n, x -> {
                posts(x, 0, 5);
                people(x, new int[many]);
            }, PostsFilled::ring, n);
        }
    }

    private static void eachLearnsTheNextOnes() {
        Edge.Making three = x -> {
            musts(x, 3);
            people(x, 0, 1, 2);
        };
        E.answers("16: three for three: nobody may be away", three, PostsFilled::ring, 0);
        Edge.Making four = x -> {
            three.of(x);
            x.person(0, 200);
        };
        E.answers("16: four for three: the last learns that of the first", four, PostsFilled::ring, 1);
        E.answers("16: not the barred one", x -> {
            four.of(x);
            x.bar(3, 0, 1);
        }, PostsFilled::ring, 0);
        E.answers("16: barred from its own, too", x -> {
            three.of(x);
            x.bar(0, 0, 1);
        }, PostsFilled::ring, 0);
        E.answers("16: nobody else is left for post 0", x -> {
            three.of(x);
            x.bar(0, 0, 1);
            x.bar(2, 0, 1);
        }, PostsFilled::ring, NONE);
        E.answers("16: the next one, not the one before", x -> {
            musts(x, 2);
            people(x, 0, 1, 1);
            x.bar(0, 0, 1);
            x.bar(2, 0, 1);
        }, PostsFilled::ring, NONE);
        E.answers("16: the last one learns that of the first", x -> {
            musts(x, 2);
            people(x, 0, 1, 1);
            x.bar(0, 0, 1);
        }, PostsFilled::ring, 0);
        E.answers("16: one alone learns its own", x -> {
            musts(x, 2);
            people(x, 0);
        }, PostsFilled::ring, NONE);
    }

    // ---- 17: sure

    private static void sure(String name, Edge.Making making, long above, long below) {
        E.answers("17: " + name + ", above", making, x -> x.sure(0), above);
        E.answers("17: " + name + ", below", making, x -> x.sure(1), below);
    }

    private static void sureAnswers() {
        for (int no : new int[] {-1, 2, FAR, DEEP}) {
            E.leavesAll("17: part " + no, Edge::busy, x -> x.sure(no), PostsFilled.NO);
        }
        E.leavesAll("17: part 0", Edge::busy, x -> x.sure(0), with(Edge::busy).sure(0));
        E.leavesAll("17: part 1", Edge::busy, x -> x.sure(1), with(Edge::busy).sure(1));
        sure("without all", Edge::empty, 1, 1);
        sure("0 by 1", x -> musts(x, 1), 0, 1);
        sure("0 by 1, with people", x -> {
            musts(x, 2);
            x.person(0, 3);
            x.person(0, 3);
        }, 0, 1);
        long[][] want = {{1, 1}, {9, 10}, {4, 5}, {7, 10}, {3, 5}, {1, 2}, {2, 5}, {3, 10}, {1, 5}, {1, 10}};
        for (int c = 0; c <= 9; c++) {
            int chance = c;
            sure("chance " + c, x -> {
                musts(x, 1);
                x.person(0, chance);
            }, want[c][0], want[c][1]);
            sure("chance " + c + ", of one that may stand empty", x -> {
                posts(x, 0, 1);
                x.person(0, chance);
            }, 1, 1);
        }
    }

    private static void sureOfMany() {
        sure("all seven needed or not: 1 less 0.9 to the seventh", x -> {
            musts(x, 1);
            for (int p = 0; p < 7; p++) {
                x.person(0, 9);
            }
        }, 10000000 - 4782969, 10000000);
        sure("six of six: 0.1 to the sixth", x -> {
            musts(x, 6);
            for (int p = 0; p < 6; p++) {
                x.person(0, 100 * p + 9);
            }
        }, 1, 1000000);
        sure("six of six, each a half", x -> {
            musts(x, 6);
            for (int p = 0; p < 6; p++) {
                x.person(0, 100 * p + 5);
            }
        }, 1, 64);
        sure("one who is never away, and one", x -> {
            musts(x, 1);
            x.person(0, 0);
            x.person(0, 9);
        }, 1, 1);
        sure("two of three, each a half", x -> {
            musts(x, 2);
            for (int p = 0; p < 3; p++) {
                x.person(1, 5);
            }
        }, 1, 2);
    }

    public static void main(String[] args) {
        bitsOfPeople();
        fillRefuses();
        eachThatMustHasOne();
        nobodyAtTwo();
        ofLikeOnesNobodyFirst();
        ofLikeOnesThenTheLeast();
        sixPostsSevenPeople();
        fewAnswers();
        fewerPeopleThanPosts();
        leastManyThenLeastAsBits();
        fewIsNoneWhenThereIsAFilling();
        holdsRefuses();
        holdsTill();
        worstRefuses();
        leastAsBits();
        lackComesToLeast();
        lackIsNotTheFirst();
        lessonsRefuses();
        twoAtMost();
        noSuchManyAreAway();
        fewestAheadOfCheapest();
        cheapestThenFirst();
        askedAgainAfterAChange();
        costsAreBound();
        greatestNumbers();
        ringAnswers();
        eachLearnsTheNextOnes();
        sureAnswers();
        sureOfMany();
        E.end();
    }
}
