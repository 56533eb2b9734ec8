/** The boundary cases of promises 26 to 30, and of what part 3 of the document says of sheets. */
public final class HostEdgesTest {
    private static final Edge E = new Edge("HostEdgesTest");
    private static final int BAD = PostsFilled.BAD;
    private static final int FAR = Integer.MAX_VALUE, DEEP = Integer.MIN_VALUE;
    private static final int[] NO_SHEET = {-1, 4, 5, FAR, DEEP};

    /** Six of kind 3 who can do all posts, so that judge() tells what stands in a sheet. */
    private static void six(PostsFilled x) {
        x.post(0, 5);
        for (int p = 0; p < 6; p++) {
            x.person(3, 0);
        }
    }

    /** What stands at a place, told by judge(): -1, one of the six people, or -9 for all others. */
    private static int item(PostsFilled x, int sheet, int sort, int i) {
        int spare = sheet == 0 ? 1 : 0;
        x.sheet(spare, sort, 1);
        if (x.copy(sheet, i, spare, 0, 1) != 1) {
            return -99;
        }
        for (int p = 0; p < 6; p++) {
            if (x.judge(63 & ~(1 << p), spare) == -1 && x.judge(1 << p, spare) == 10) {
                return p;
            }
        }
        return x.judge(63, spare) == -1 ? -1 : -9;
    }

    // ---- 26: sheet

    private static void sheetRefuses() {
        for (int no : NO_SHEET) {
            E.leavesAll("26: sheet " + no, Edge::busy, x -> x.sheet(no, 0, 1), BAD);
            E.leavesAll("26: sheet " + no + ", missing", Edge::busy, x -> x.sheet(no, -1, 1), BAD);
            E.leavesAll("26: sheet " + no + " ahead of -14", Edge::busy, x -> x.sheet(no, 0, -1), BAD);
        }
        for (int no : new int[] {-2, 3, 4, FAR, DEEP}) {
            E.leavesAll("26: sort " + no, Edge::busy, x -> x.sheet(0, no, 1), BAD);
            E.leavesAll("26: sort " + no + " ahead of -14", Edge::busy, x -> x.sheet(0, no, -1), BAD);
        }
        for (int s = 0; s < 3; s++) {
            int sort = s;
            for (int no : new int[] {41, 42, FAR}) {
                E.leavesAll("26: n " + no + " of sort " + s, Edge::busy, x -> x.sheet(0, sort, no), BAD);
            }
            for (int no : new int[] {-1, -2, DEEP}) {
                E.leavesAll("26: n " + no + " of sort " + s, Edge::busy, x -> x.sheet(0, sort, no), -14);
            }
        }
    }

    private static void sheetsOf0To40() {
        for (int sheet = 0; sheet < 4; sheet++) {
            for (int sort = 0; sort < 3; sort++) {
                for (int n : new int[] {0, 1, 39, 40}) {
                    PostsFilled x = new PostsFilled();
                    E.is("26: sheet of " + n, x.sheet(sheet, sort, n), 1);
                    E.is("27: place -1 of " + n, x.cell(sheet, -1, 5), -12);
                    E.is("27: the last of " + n, x.cell(sheet, n - 1, 5), n == 0 ? -12 : 1);
                    E.is("27: one behind the last of " + n, x.cell(sheet, n, 5), -12);
                    for (int other = 0; other < 4; other++) {
                        E.is("26: the others are missing", x.cell(other, 40, 5), other == sheet ? -12 : -11);
                    }
                }
            }
        }
    }

    private static void allAre0() {
        PostsFilled x = new PostsFilled();
        six(x);
        for (int sort = 0; sort < 3; sort++) {
            Due.row(x, 2, sort, 5, 4, 3);
            E.is("26: an item", item(x, 2, sort, 2), 3);
            E.is("26: it becomes a row anew", x.sheet(2, sort, 4), 1);
            for (int i = 0; i < 4; i++) {
                E.is("26: all 0", item(x, 2, sort, i), 0);
            }
            E.is("26: no more than its n", item(x, 2, sort, 4), -99);
        }
        Due.row(x, 2, 2, 5, 4, 3);
        x.sheet(2, 2, 1);
        x.sheet(2, 2, 3);
        E.is("26: all 0 again, though it was shorter between", item(x, 2, 2, 2), 0);
    }

    private static void missing() {
        for (int n : new int[] {0, 1, -1, 40, 41, FAR, DEEP}) {
            PostsFilled x = Edge.made(Edge::busy);
            E.is("26: missing, n does not matter: " + n, x.sheet(0, -1, n), 1);
            E.is("26: it is missing", x.cell(0, 0, 1), -11);
            E.is("26: the others are not", x.cell(1, 0, 1), 1);
        }
        E.leavesAll("26: a missing one may become missing", Edge::busy, x -> x.sheet(3, -1, 5), 1);
        PostsFilled y = new PostsFilled();
        six(y);
        Due.row(y, 2, 0, 5);
        y.sheet(2, -1, 0);
        y.sheet(2, 0, 1);
        E.is("26: what was missing between is all 0", item(y, 2, 0, 0), 0);
    }

    // ---- 27: cell

    private static void cellRefuses() {
        for (int no : NO_SHEET) {
            E.leavesAll("27: sheet " + no, Edge::busy, x -> x.cell(no, 0, 1), BAD);
            E.leavesAll("27: sheet " + no + " ahead of -12", Edge::busy, x -> x.cell(no, -1, 1), BAD);
        }
        E.leavesAll("27: missing", Edge::busy, x -> x.cell(3, 0, 1), -11);
        E.leavesAll("27: missing ahead of -12", Edge::busy, x -> x.cell(3, -1, 1), -11);
        for (int no : new int[] {-1, 3, 4, 40, FAR, DEEP}) {
            E.leavesAll("27: place " + no, Edge::busy, x -> x.cell(0, no, 1), -12);
        }
        E.answers("27: place 0", Edge::busy, x -> x.cell(0, 0, 1), 1);
        E.answers("27: the last place", Edge::busy, x -> x.cell(0, 2, 1), 1);
        E.leavesAll("27: what stands there already", Edge::busy, x -> x.cell(0, 2, 2), 1);
    }

    private static void cut(int sort, int v, int want) {
        PostsFilled x = new PostsFilled();
        six(x);
        x.sheet(2, sort, 3);
        E.is("27: cell", x.cell(2, 1, v), 1);
        E.is("27: sort " + sort + " of " + v, item(x, 2, sort, 1), want);
        E.is("27: the one before", item(x, 2, sort, 0), 0);
        E.is("27: the one behind", item(x, 2, sort, 2), 0);
    }

    private static void lowestBits() {
        for (int sort = 0; sort < 3; sort++) {
            cut(sort, 5, 5);
            cut(sort, -1, -1);
            cut(sort, -2, -9);
            cut(sort, 127, -9);
            cut(sort, 128, -9);
            cut(sort, -128, -9);
            cut(sort, -129, -9);
            cut(sort, 255, sort == 0 ? -1 : -9);
            cut(sort, 256, sort == 0 ? 0 : -9);
            cut(sort, 257, sort == 0 ? 1 : -9);
            cut(sort, -256, sort == 0 ? 0 : -9);
            cut(sort, -255, sort == 0 ? 1 : -9);
            cut(sort, 32767, sort == 0 ? -1 : -9);
            cut(sort, 32768, sort == 0 ? 0 : -9);
            cut(sort, 65535, sort <= 1 ? -1 : -9);
            cut(sort, 65536, sort <= 1 ? 0 : -9);
            cut(sort, 65537, sort <= 1 ? 1 : -9);
            cut(sort, FAR, sort <= 1 ? -1 : -9);
            cut(sort, DEEP, sort <= 1 ? 0 : -9);
            cut(sort, DEEP + 1, sort <= 1 ? 1 : -9);
        }
    }

    /** A byte is 127 at most, and -128 behind it: so it is no one's kind or own post. */
    private static void bytesHaveSigns() {
        for (int v = 125; v <= 130; v++) {
            PostsFilled x = new PostsFilled();
            x.post(1, 5);
            x.post(1, 5);
            Due.row(x, 0, 0, 0, v);
            E.is("27, 29: a byte of " + v, x.people(0, 0, 0, 1), v <= 127 ? 1 : 0);
            PostsFilled y = new PostsFilled();
            y.post(1, 5);
            Due.row(y, 0, 1, 0, v - 127 + 32767);
            E.is("27, 29: a short of " + (v - 127 + 32767), y.people(0, 1, 0, 1), 0);
        }
    }

    // ---- 28: copy

    private static void copyRefuses() {
        for (int no : NO_SHEET) {
            E.leavesAll("28: sheet " + no, Edge::busy, x -> x.copy(no, 0, 0, 0, 1), BAD);
            E.leavesAll("28: other " + no, Edge::busy, x -> x.copy(0, 0, no, 0, 1), BAD);
            E.leavesAll("28: other " + no + " ahead of -11", Edge::busy, x -> x.copy(3, 0, no, 0, 1), BAD);
            E.leavesAll("28: sheet " + no + " ahead of -11", Edge::busy, x -> x.copy(no, 0, 3, 0, 1), BAD);
            E.leavesAll("28: sheet " + no + " ahead of -12", Edge::busy, x -> x.copy(no, -1, 0, -1, -1), BAD);
        }
        E.leavesAll("28: of a missing one", Edge::busy, x -> x.copy(3, 0, 0, 0, 1), -11);
        E.leavesAll("28: to a missing one", Edge::busy, x -> x.copy(0, 0, 3, 0, 1), -11);
        E.leavesAll("28: none of a missing one", Edge::busy, x -> x.copy(3, 0, 3, 0, 0), -11);
        E.leavesAll("28: missing ahead of -12", Edge::busy, x -> x.copy(3, 0, 0, 0, -1), -11);
        E.leavesAll("28: missing ahead of -12", Edge::busy, x -> x.copy(0, 9, 3, 0, 1), -11);
        E.leavesAll("28: bytes to ints", Edge::busy, x -> x.copy(0, 0, 1, 0, 1), -13);
        E.leavesAll("28: bytes to shorts", Edge::busy, x -> x.copy(0, 0, 2, 0, 1), -13);
        E.leavesAll("28: ints to shorts", Edge::busy, x -> x.copy(1, 0, 2, 0, 1), -13);
        E.leavesAll("28: shorts to bytes, none of them", Edge::busy, x -> x.copy(2, 0, 0, 0, 0), -13);
        E.leavesAll("28: unlike sorts ahead of -12", Edge::busy, x -> x.copy(0, -1, 1, 9, -1), -13);
    }

    /** Of a row of three to one of two: all i, j and n about their bounds. */
    private static void copyPlaces() {
        for (int sort = 0; sort < 3; sort++) {
            for (int i = -1; i <= 4; i++) {
                for (int j = -1; j <= 3; j++) {
                    for (int n = -1; n <= 4; n++) {
                        PostsFilled x = new PostsFilled();
                        six(x);
                        Due.row(x, 2, sort, 3, 4, 5);
                        Due.row(x, 3, sort, 1, 2);
                        boolean may = i >= 0 && j >= 0 && n >= 0 && i + n <= 3 && j + n <= 2;
                        String name = "28: copy of " + n + " from " + i + " to " + j;
                        E.is(name, x.copy(2, i, 3, j, n), may ? n : -12);
                        for (int k = 0; k < 2; k++) {
                            int want = may && k >= j && k < j + n ? 3 + i + k - j : 1 + k;
                            E.is(name + ", item " + k, item(x, 3, sort, k), want);
                        }
                        E.is(name + ", what it was of stays", item(x, 2, sort, 1), 4);
                    }
                }
            }
        }
    }

    private static void copyFar() {
        int[] far = {FAR, FAR - 1, DEEP, DEEP + 1};
        for (int a : far) {
            E.leavesAll("28: from " + a, Edge::busy, x -> x.copy(0, a, 0, 0, 1), -12);
            E.leavesAll("28: to " + a, Edge::busy, x -> x.copy(0, 0, 0, a, 1), -12);
            E.leavesAll("28: n " + a, Edge::busy, x -> x.copy(0, 0, 0, 0, a), -12);
            for (int b : far) {
                E.leavesAll("28: from and n far", Edge::busy, x -> x.copy(0, a, 0, 0, b), -12);
                E.leavesAll("28: to and n far", Edge::busy, x -> x.copy(0, 0, 0, a, b), -12);
            }
        }
    }

    /** Within one sheet, all ways: the numbers come as they were. */
    private static void copyWithin() {
        for (int i = 0; i <= 4; i++) {
            for (int j = 0; j <= 4; j++) {
                for (int n = 0; n <= 4 - Math.max(i, j); n++) {
                    PostsFilled x = new PostsFilled();
                    six(x);
                    Due.row(x, 2, 2, 1, 2, 3, 4);
                    String name = "28: within, " + n + " from " + i + " to " + j;
                    E.is(name, x.copy(2, i, 2, j, n), n);
                    for (int k = 0; k < 4; k++) {
                        E.is(name + ", item " + k, item(x, 2, 2, k), k >= j && k < j + n ? 1 + i + k - j : 1 + k);
                    }
                }
            }
        }
    }

    private static void copyOf40() {
        PostsFilled x = new PostsFilled();
        x.sheet(0, 1, 40);
        x.sheet(1, 1, 40);
        E.is("28: all 40", x.copy(0, 0, 1, 0, 40), 40);
        E.is("28: 41", x.copy(0, 0, 1, 0, 41), -12);
        E.is("28: 40 from 1 on", x.copy(0, 1, 1, 0, 40), -12);
        E.is("28: 39 from 1 on", x.copy(0, 1, 1, 0, 39), 39);
        E.is("28: none from 40 on", x.copy(0, 40, 1, 40, 0), 0);
        E.is("28: none from 41 on", x.copy(0, 41, 1, 40, 0), -12);
    }

    private static void copiesAreNotTheSame() {
        PostsFilled x = new PostsFilled();
        six(x);
        Due.row(x, 2, 2, 1, 2);
        x.sheet(3, 2, 2);
        x.copy(2, 0, 3, 0, 2);
        x.cell(2, 0, 5);
        E.is("28: what came stays, though that of which it came becomes another", item(x, 3, 2, 0), 1);
        x.sheet(2, -1, 0);
        E.is("28: or missing", item(x, 3, 2, 1), 2);
    }

    // ---- 29: people

    private static void peopleRefuses() {
        for (int no : NO_SHEET) {
            E.leavesAll("29: sheet " + no, Edge::busy, x -> x.people(no, 0, 0, 1), BAD);
        }
        for (int no : new int[] {-1, -2, 3, FAR, DEEP}) {
            E.leavesAll("29: sort " + no, Edge::busy, x -> x.people(0, no, 0, 1), BAD);
            E.leavesAll("29: sort " + no + " of a missing one", Edge::busy, x -> x.people(3, no, 0, 1), BAD);
        }
        for (int no : new int[] {-1, -2, 9, 10, FAR, DEEP}) {
            E.leavesAll("29: n " + no, Edge::busy, x -> x.people(0, 0, 0, no), BAD);
            E.leavesAll("29: n " + no + " ahead of -13", Edge::busy, x -> x.people(0, 1, 0, no), BAD);
            E.leavesAll("29: n " + no + " ahead of -11", Edge::busy, x -> x.people(3, 1, 0, no), BAD);
        }
        int[] sorts = {0, 2, 1};
        for (int s = 0; s < 3; s++) {
            int sheet = s;
            for (int k = 0; k < 3; k++) {
                int sort = k;
                if (sorts[s] != k) {
                    E.leavesAll("29: of another sort", Edge::busy, x -> x.people(sheet, sort, 0, 1), -13);
                    E.leavesAll("29: of another sort, none of them", Edge::busy, x -> x.people(sheet, sort, 0, 0), -13);
                    E.leavesAll("29: -13 ahead of -12", Edge::busy, x -> x.people(sheet, sort, -1, 8), -13);
                }
                E.leavesAll("29: a missing one is of no other sort", Edge::busy, x -> x.people(3, sort, 0, 1), -11);
                E.leavesAll("29: missing, none of them", Edge::busy, x -> x.people(3, sort, 0, 0), -11);
                E.leavesAll("29: -11 ahead of -12", Edge::busy, x -> x.people(3, sort, -1, 8), -11);
            }
        }
    }

    /** Posts for own posts 0 to 2, and a sheet with three people in seven places. */
    private static void crowd(PostsFilled x) {
        x.post(1, 5);
        x.post(1, 5);
        x.post(0, 5);
        Due.row(x, 1, 1, 0, 11, 1, 122, 2, 233, 3);
    }

    private static void peoplePlaces() {
        for (int from : new int[] {-1, -2, 7, 8, 40, FAR, FAR - 1, DEEP, DEEP + 1}) {
            E.leavesAll("29: from " + from, HostEdgesTest::crowd, x -> x.people(1, 1, from, 1), -12);
        }
        E.leavesAll("29: the second of two is outside", HostEdgesTest::crowd, x -> x.people(1, 1, 6, 1), -12);
        E.answers("29: two by two, from 4", HostEdgesTest::crowd, x -> x.people(1, 1, 4, 1), 1);
        E.leavesAll("29: none of them", HostEdgesTest::crowd, x -> x.people(1, 1, 0, 0), 0);
        E.leavesAll("29: none of an empty row", x -> x.sheet(0, 0, 0), x -> x.people(0, 0, 0, 0), 0);
        E.leavesAll("29: one of an empty row", x -> x.sheet(0, 0, 0), x -> x.people(0, 0, 0, 1), -12);
        for (int n = 1; n <= 8; n++) {
            PostsFilled x = Edge.made(HostEdgesTest::crowd);
            E.is("29: n " + n, x.people(1, 1, 0, n), n <= 3 ? n : -12);
            int came = Math.min(n, 3);
            E.is("29: what stood ahead came", x.count(1), came);
            for (int p = 0; p < came; p++) {
                E.is("29: kind", x.told(p, 0, 0), p);
                E.is("29: own", x.told(p, 0, 1), p);
                E.is("29: number", x.told(p, 0, 2), 1 + p);
                E.is("29: chance", x.told(p, 0, 3), 1 + p);
            }
        }
    }

    private static void othersAreLeftOut() {
        PostsFilled x = new PostsFilled();
        x.post(1, 5);
        Due.row(x, 0, 2, -1, 0, 0, -1, 6, 0, 0, 100, FAR, FAR, DEEP, DEEP, 5, 99, 0, 0);
        E.is("29: as of person(), those that are BAD are left out", x.people(0, 2, 0, 8), 2);
        E.is("29: people", x.count(1), 2);
        E.is("29: the first that came", x.told(0, 0, 0), 5);
        E.is("29: the second that came", x.told(1, 0, 0), 0);
        PostsFilled y = new PostsFilled();
        Due.row(y, 0, 2, 0, 0);
        E.is("29: without posts nobody comes", y.people(0, 2, 0, 1), 0);
    }

    private static void sevenAtMost() {
        for (int had = 0; had <= 7; had++) {
            PostsFilled x = new PostsFilled();
            x.post(1, 5);
            for (int p = 0; p < had; p++) {
                x.person(0, 0);
            }
            x.sheet(0, 0, 16);
            E.is("29: eight to " + had, x.people(0, 0, 0, 8), 7 - had);
            E.is("29: seven people", x.count(1), 7);
            E.is("29: nobody more", x.people(0, 0, 0, 8), 0);
            E.is("29: outside, though nobody would come", x.people(0, 0, 2, 8), -12);
        }
    }

    private static void peopleLeaveTheSheet() {
        PostsFilled x = Edge.made(HostEdgesTest::crowd);
        x.people(1, 1, 0, 3);
        E.is("29: the same again", x.people(1, 1, 0, 3), 3);
        E.is("29: six people", x.count(1), 6);
        E.is("29: the fourth is as the first", x.told(3, 0, 2), 1);
    }

    // ---- 30: taken

    private static void takenRefuses() {
        for (int no : new int[] {-1, 6, 7, FAR, DEEP}) {
            E.leavesAll("30: k " + no, Edge::busy, x -> x.taken(0, no), BAD);
            E.leavesAll("30: k " + no + " ahead of -11", Edge::busy, x -> x.taken(9, no), BAD);
        }
        for (int no : new int[] {-1, 4, 7, FAR, DEEP}) {
            E.leavesAll("30: person " + no, Edge::busy, x -> x.taken(no, 0), -11);
            E.leavesAll("30: person " + no + ", another kind", Edge::busy, x -> x.taken(no, 5), -11);
        }
        E.leavesAll("30: nobody", Edge::empty, x -> x.taken(0, 0), -11);
        E.leavesAll("30: the last one", Edge::busy, x -> x.taken(3, 0), 0);
        E.leavesAll("30: of another kind", Edge::busy, x -> x.taken(3, 5), -13);
    }

    private static void kindsUnderKinds() {
        String[] under = {"1.....", "11....", "1.1...", "11.1..", "1.1.1.", "1....1"};
        for (int number : new int[] {0, 9}) {
            PostsFilled x = new PostsFilled();
            x.post(1, 5);
            for (int kind = 0; kind < 6; kind++) {
                x.person(kind, 10 * number);
                for (int k = 0; k < 6; k++) {
                    int want = under[kind].charAt(k) == '1' ? number : -13;
                    E.is("30: one of kind " + kind + " taken for one of " + k, x.taken(kind, k), want);
                }
            }
        }
    }

    public static void main(String[] args) {
        sheetRefuses();
        sheetsOf0To40();
        allAre0();
        missing();
        cellRefuses();
        lowestBits();
        bytesHaveSigns();
        copyRefuses();
        copyPlaces();
        copyFar();
        copyWithin();
        copyOf40();
        copiesAreNotTheSame();
        peopleRefuses();
        peoplePlaces();
        othersAreLeftOut();
        sevenAtMost();
        peopleLeaveTheSheet();
        takenRefuses();
        kindsUnderKinds();
        E.end();
    }
}
