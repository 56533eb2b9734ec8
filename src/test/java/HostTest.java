/** Promises 26 to 30: sheet, cell, copy, people, taken. */
public final class HostTest {
    private static final Due DUE = new Due("HostTest");
    private static final int BAD = PostsFilled.BAD;
    private static final int FAR = Integer.MAX_VALUE;

    private static void sheet() {
        PostsFilled x = new PostsFilled();
        DUE.is("sheet -1", x.sheet(-1, 0, 1), BAD);
        DUE.is("sheet 4", x.sheet(4, 0, 1), BAD);
        DUE.is("sheet sort -2", x.sheet(0, -2, 1), BAD);
        DUE.is("sheet sort 3", x.sheet(0, 3, 1), BAD);
        DUE.is("sheet n 41", x.sheet(0, 0, 41), BAD);
        DUE.is("sheet n -1", x.sheet(0, 0, -1), -14);
        DUE.is("sheet BAD ahead of -14", x.sheet(4, 0, -1), BAD);
        DUE.is("sheet BAD ahead of -14", x.sheet(0, 3, -1), BAD);
        DUE.is("it is missing still", x.cell(0, 0, 0), -11);
        DUE.is("sheet of 40", x.sheet(0, 2, 40), 1);
        DUE.is("its last", x.cell(0, 39, 1), 1);
        DUE.is("refused", x.sheet(0, 2, -1), -14);
        DUE.is("it stays", x.cell(0, 39, 1), 1);
        DUE.is("sheet of none", x.sheet(0, 2, 0), 1);
        DUE.is("no place", x.cell(0, 0, 1), -12);
        DUE.is("missing, n does not matter", x.sheet(0, -1, -5), 1);
        DUE.is("missing, n does not matter", x.sheet(0, -1, 500), 1);
        DUE.is("missing", x.cell(0, 0, 1), -11);
        DUE.is("missing, no such", x.sheet(4, -1, 0), BAD);
    }

    private static void cell() {
        PostsFilled x = new PostsFilled();
        x.sheet(3, 0, 2);
        DUE.is("cell of 4", x.cell(4, 0, 0), BAD);
        DUE.is("cell of -1", x.cell(-1, 0, 0), BAD);
        DUE.is("cell missing, ahead of outside", x.cell(0, 9, 0), -11);
        DUE.is("cell 2", x.cell(3, 2, 0), -12);
        DUE.is("cell -1", x.cell(3, -1, 0), -12);
        DUE.is("cell 1", x.cell(3, 1, 0), 1);
    }

    /** What a sheet of a sort holds of a number, told by whether it is the person or not. */
    private static void cuts(int sort, int v, int who) {
        PostsFilled x = new PostsFilled();
        x.post(0, 1);
        x.person(0, 0);
        x.person(0, 0);
        Due.row(x, 0, sort, v);
        DUE.is("sort " + sort + " of " + v, x.judge(0, 0), who == -2 ? 10 : -1);
        DUE.is("sort " + sort + " of " + v, x.judge(3, 0), who == -1 ? -1 : 10);
        DUE.is("sort " + sort + " of " + v, x.judge(2, 0), who == 0 || who == -1 ? -1 : 10);
    }

    private static void cuts() {
        cuts(0, 256, 0);
        cuts(0, 255, -1);
        cuts(0, 257, 1);
        cuts(0, 128, -2);
        cuts(1, 65536, 0);
        cuts(1, 65535, -1);
        cuts(1, 65537, 1);
        cuts(1, 256, -2);
        cuts(2, 65536, -2);
        cuts(2, -1, -1);
        cuts(2, 1, 1);
    }

    private static void copy() {
        PostsFilled x = new PostsFilled();
        x.post(0, 1);
        x.post(0, 1);
        for (int p = 0; p < 4; p++) {
            x.person(3, 0);
        }
        Due.row(x, 0, 1, 0, 1, 2, 3);
        x.sheet(1, 1, 2);
        x.sheet(2, 0, 2);
        DUE.is("copy of 4", x.copy(4, 0, 0, 0, 0), BAD);
        DUE.is("copy to -1", x.copy(0, 0, -1, 0, 0), BAD);
        DUE.is("copy BAD ahead of missing", x.copy(3, 0, 4, 0, 0), BAD);
        DUE.is("copy of missing", x.copy(3, 0, 0, 0, 0), -11);
        DUE.is("copy to missing, ahead of outside", x.copy(0, 9, 3, 0, 0), -11);
        DUE.is("copy of unlike sorts, ahead of outside", x.copy(0, 9, 2, 0, 0), -13);
        DUE.is("copy n -1", x.copy(0, 0, 1, 0, -1), -12);
        DUE.is("copy i -1", x.copy(0, -1, 1, 0, 0), -12);
        DUE.is("copy j -1", x.copy(0, 0, 1, -1, 0), -12);
        DUE.is("copy i 5", x.copy(0, 5, 1, 0, 0), -12);
        DUE.is("copy j 3", x.copy(0, 0, 1, 3, 0), -12);
        DUE.is("copy too many to", x.copy(0, 0, 1, 0, 3), -12);
        DUE.is("copy too many of", x.copy(0, 3, 1, 0, 2), -12);
        DUE.is("copy far", x.copy(0, FAR, 1, 0, FAR), -12);
        DUE.is("copy far", x.copy(0, 1, 1, 1, FAR), -12);
        DUE.is("copy nothing at the ends", x.copy(0, 4, 1, 2, 0), 0);
        DUE.is("nothing came", x.judge(0, 1), 11);
        DUE.is("copy", x.copy(0, 2, 1, 0, 2), 2);
        DUE.is("they came", x.judge(0, 1), -1);
        DUE.is("2 is there", x.judge(4, 1), 10);
        DUE.is("3 is there", x.judge(8, 1), 11);
    }

    /** Copies within one sheet: the numbers come as they were. */
    private static void copyOver(int i, int j, int first, int second) {
        PostsFilled x = new PostsFilled();
        x.post(0, 1);
        x.post(0, 1);
        for (int p = 0; p < 4; p++) {
            x.person(3, 0);
        }
        Due.row(x, 0, 2, 0, 1, 2, 3);
        DUE.is("copy over itself", x.copy(0, i, 0, j, 3), 3);
        x.sheet(1, 2, 2);
        x.copy(0, 1, 1, 0, 2);
        for (int p = 0; p < 4; p++) {
            int want = p == first ? 10 : p == second ? 11 : -1;
            DUE.is("item of " + p, x.judge(1 << p, 1), want);
        }
    }

    private static void people() {
        PostsFilled x = new PostsFilled();
        x.post(1, 5);
        x.post(1, 5);
        Due.row(x, 0, 2, 0, 123, 1, 45, 6, 0, 2, 200, 5, 0, 4, 67);
        x.sheet(1, 0, 3);
        DUE.is("people of 4", x.people(4, 0, 0, 0), BAD);
        DUE.is("people of -1", x.people(-1, 0, 0, 0), BAD);
        DUE.is("people sort -1", x.people(0, -1, 0, 0), BAD);
        DUE.is("people sort 3", x.people(0, 3, 0, 0), BAD);
        DUE.is("people n -1", x.people(0, 2, 0, -1), BAD);
        DUE.is("people n 9", x.people(0, 2, 0, 9), BAD);
        DUE.is("people BAD ahead of -13", x.people(0, 1, 0, 9), BAD);
        DUE.is("people of another sort, ahead of outside", x.people(0, 1, 99, 1), -13);
        DUE.is("people of missing, ahead of outside", x.people(2, 1, 99, 1), -11);
        DUE.is("people from -1", x.people(0, 2, -1, 1), -12);
        DUE.is("people from 12", x.people(0, 2, 12, 1), -12);
        DUE.is("people from far", x.people(0, 2, FAR, 8), -12);
        DUE.is("people from 11: its other half is outside", x.people(0, 2, 11, 1), -12);
        DUE.is("none came", x.count(1), 0);
        DUE.is("people n 0", x.people(0, 2, 0, 0), 0);
        DUE.is("two of four came", x.people(0, 2, 0, 4), 2);
        DUE.is("kind", x.told(1, 0, 0), 1);
        DUE.is("own", x.told(0, 0, 1), 1);
        DUE.is("number", x.told(1, 0, 2), 4);
        DUE.is("chance", x.told(0, 0, 3), 3);
        DUE.is("what stood ahead came", x.people(0, 2, 8, 3), -12);
        DUE.is("people", x.count(1), 4);
        DUE.is("kind", x.told(3, 0, 0), 4);
        DUE.is("those without room are left out", x.people(1, 0, 0, 1), 1);
        DUE.is("those without room are left out", x.people(0, 2, 0, 6), 2);
        DUE.is("people", x.count(1), 7);
        DUE.is("outside still", x.people(1, 0, 0, 2), -12);
        DUE.is("no room", x.people(0, 2, 0, 6), 0);
    }

    private static void taken() {
        PostsFilled x = new PostsFilled();
        x.post(1, 5);
        for (int kind = 0; kind < 6; kind++) {
            x.person(kind, 10 * (kind + 1));
        }
        int[] under = {1, 1 + 2, 1 + 4, 1 + 2 + 8, 1 + 4 + 16, 1 + 32};
        for (int kind = 0; kind < 6; kind++) {
            for (int k = 0; k < 6; k++) {
                DUE.is("kind " + kind + " taken for " + k, x.taken(kind, k), (under[kind] >> k & 1) == 1 ? kind + 1 : -13);
            }
        }
        DUE.is("taken k -1", x.taken(0, -1), BAD);
        DUE.is("taken k 6", x.taken(0, 6), BAD);
        DUE.is("taken BAD ahead of nothing", x.taken(9, 6), BAD);
        DUE.is("taken of none", x.taken(6, 0), -11);
        DUE.is("taken of -1", x.taken(-1, 0), -11);
    }

    public static void main(String[] args) {
        sheet();
        cell();
        cuts();
        copy();
        copyOver(0, 1, 0, 1);
        copyOver(1, 0, 2, 3);
        people();
        taken();
        DUE.end();
    }
}
