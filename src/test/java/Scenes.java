/** States of an object that several tests begin with. */
final class Scenes {
    static final int CELLS = 332;
    static final int HOME_CELLS = 110;

    private Scenes() {
    }

    /** Memory with one new file is lost, so that the disk is still that of a new object. */
    static Counted down() {
        Counted x = new Counted();
        x.create(1, 0);
        x.crashAfter(0);
        x.sync();
        return x;
    }

    /** Puts these addresses and words, by turns, into the journal of an object that is down, so that the check is right. */
    static void putJournal(Counted x, int... pairs) {
        int check = pairs.length / 2;
        for (int i = 0; i < pairs.length; i++) {
            x.corrupt(112 + i, pairs[i]);
            check = check * 31 + pairs[i];
        }
        x.corrupt(111, check);
        x.corrupt(110, pairs.length / 2);
    }

    static int[] diskOf(Counted x) {
        return firstCellsOf(x, CELLS);
    }

    static int[] homeOf(Counted x) {
        return firstCellsOf(x, HOME_CELLS);
    }

    private static int[] firstCellsOf(Counted x, int many) {
        int[] cells = new int[many];
        for (int cell = 0; cell < many; cell++) {
            cells[cell] = x.peek(cell);
        }
        return cells;
    }

    /** As many cells as want tells of. */
    static void isDisk(Due due, String when, Counted x, int[] want) {
        for (int cell = 0; cell < want.length; cell++) {
            due.is(when + " peek(" + cell + ")", x.peek(cell), want[cell]);
        }
    }
}
