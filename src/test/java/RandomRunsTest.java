/** Long runs of mixed calls, the same each time: the program must answer as Model does. */
public final class RandomRunsTest {
    private static final int RUNS = 6000;
    private static final int WRONG_RUNS_SHOWN = 3;
    private static final int[] ODD = {-1, -2, 0, 1, 3, 4, 5, 6, 31, 32, 33, 63, 64, 65, 99, 100, 109, 110, 111, 112,
        161, 162, 331, 332, Integer.MIN_VALUE, Integer.MAX_VALUE};

    private final Due due = new Due();
    private final StringBuilder calls = new StringBuilder();
    private long seed;
    private int run;
    private Counted x;
    private Model model;
    /** How often each call answered each of its codes: index 16 * call - code. */
    private final int[] seen = new int[16 * 32];

    public static void main(String[] args) {
        new RandomRunsTest().all();
    }

    private void all() {
        int wrongRuns = 0;
        for (run = 1; run <= RUNS && wrongRuns < WRONG_RUNS_SHOWN; run++) {
            seed = 7919L * run;
            x = new Counted();
            model = new Model();
            calls.setLength(0);
            if (!oneRun()) {
                wrongRuns++;
                System.out.println("run " + run + ":" + calls);
            }
        }
        for (int clause = 0; clause <= 8; clause++) {
            due.is("fsck was seen to answer " + clause, seen[16 * 21 + clause] > 50, true);
        }
        everyCodeWasSeen();
        due.end();
    }

    /** Else the runs would prove less than they seem to. */
    private void everyCodeWasSeen() {
        int[][] codes = {{3, 0, -1, -2, -11, -12}, {4, 0, -3, -4, -11}, {5, 0, -3, -5, -11}, {6, 0, -6, -11},
            {7, 0, -6, -7, -8, -9, -11}, {8, 0}, {9, 0, -6, -7, -8, -9, -11}, {10, 0, -6, -11},
            {11, 0, -6, -11, -12}, {12, 0, -3, -4, -11, -12}, {13, 0, -10, -11, -12}, {14, 0, -11, -12},
            {15, 0, -11, -12}, {16, 0, -11}, {17, 0, -1}, {18, 0, -4, -13}, {19, 0, -1}};
        for (int[] row : codes) {
            for (int i = 1; i < row.length; i++) {
                boolean often = seen[16 * row[0] - row[i]] > 20;
                due.is("promise " + row[0] + " was seen to answer " + row[i], often, true);
            }
        }
    }

    /** A number 0 .. bound - 1. */
    private int any(int bound) {
        seed = seed * 6364136223846793005L + 1442695040888963407L;
        return (int) ((seed >>> 33) % bound);
    }

    private boolean chance(int percent) {
        return any(100) < percent;
    }

    /** Mostly 0 .. bound - 1, now and then something else. */
    private int about(int bound) {
        return chance(94) ? any(bound) : ODD[any(ODD.length)];
    }

    private int name() {
        return chance(94) ? 1 + any(9) : ODD[any(ODD.length)];
    }

    private int word() {
        int kind = any(10);
        return kind == 0 ? 0 : kind == 1 ? ODD[any(ODD.length)] : kind < 6 ? any(1000) : (int) (seed >>> 20);
    }

    private boolean oneRun() {
        int sweep = chance(15) ? 340 : 120;
        while (x.callsLeft() > sweep + 12) {
            if (!(model.isUp() ? callWhileUp() : callWhileDown())) {
                return false;
            }
        }
        return sweep == 340 ? sweepDisk(332) : sweepMemory();
    }

    private boolean sweepMemory() {
        same(17, "crashAfter(-1)", x.crashAfter(-1) ? 0 : -1, model.crashAfter(-1) ? 0 : -1);
        same(16, "sync()", x.sync(), model.sync());
        return sweepDisk(110);
    }

    private boolean sweepDisk(int cells) {
        boolean right = true;
        for (int cell = 0; cell < cells; cell++) {
            right &= same(20, "peek(" + cell + ")", x.peek(cell), model.peek(cell));
        }
        return right;
    }

    private boolean same(int promise, String call, int got, int want) {
        if (want >= -15 && want <= 0) {
            seen[16 * promise - want]++;
        }
        if (promise == 20 && got == want) {
            return true;
        }
        calls.append(' ').append(call).append(" -> ").append(got).append(';');
        due.is("run " + run + " " + call, got, want);
        return got == want;
    }

    private boolean callWhileUp() {
        int kind = any(100);
        if (kind < 40) {
            return callOnWords();
        }
        if (kind < 62) {
            return callOnFiles();
        }
        if (kind < 78) {
            return callOnSpace();
        }
        if (kind < 86) {
            return same(16, "sync()", x.sync(), model.sync());
        }
        if (kind < 91) {
            int n = chance(10) ? ODD[any(ODD.length)] : any(150);
            return same(17, "crashAfter(" + n + ")", x.crashAfter(n) ? 0 : -1, model.crashAfter(n) ? 0 : -1);
        }
        return callOnDisk();
    }

    private boolean callOnWords() {
        int h = about(4);
        int kind = any(10);
        if (kind < 4) {
            int p = chance(70) ? about(24) : about(64);
            int w = word();
            return same(7, "write(" + h + ", " + p + ", " + w + ")", x.write(h, p, w), model.write(h, p, w));
        }
        if (kind < 6) {
            int p = about(30);
            int answer = x.read(h, p);
            return same(8, "read(" + h + ", " + p + ")", answer, model.read(h, p));
        }
        if (kind < 8) {
            int l = chance(60) ? about(20) : about(65);
            return same(9, "truncate(" + h + ", " + l + ")", x.truncate(h, l), model.truncate(h, l));
        }
        if (kind < 9) {
            return same(10, "length(" + h + ")", x.length(h), model.length(h));
        }
        int k = about(4);
        return same(11, "extent(" + h + ", " + k + ")", x.extent(h, k), model.extent(h, k));
    }

    private boolean callOnFiles() {
        int kind = any(20);
        int n = name();
        if (kind < 6) {
            int o = about(3);
            return same(3, "create(" + n + ", " + o + ")", x.create(n, o), model.create(n, o));
        }
        if (kind < 8) {
            return same(4, "unlink(" + n + ")", x.unlink(n), model.unlink(n));
        }
        if (kind < 14) {
            return same(5, "open(" + n + ")", x.open(n), model.open(n));
        }
        if (kind < 17) {
            int h = about(4);
            return same(6, "close(" + h + ")", x.close(h), model.close(h));
        }
        int to = name();
        return same(12, "rename(" + n + ", " + to + ")", x.rename(n, to), model.rename(n, to));
    }

    private boolean callOnSpace() {
        int kind = any(10);
        int o = about(3);
        if (kind < 2) {
            int q = chance(50) ? 32 : about(33);
            return same(13, "setQuota(" + o + ", " + q + ")", x.setQuota(o, q), model.setQuota(o, q));
        }
        if (kind < 5) {
            return same(14, "usage(" + o + ")", x.usage(o), model.usage(o));
        }
        int r = about(6);
        return same(15, "free(" + r + ")", x.free(r), model.free(r));
    }

    private boolean callOnDisk() {
        int kind = any(20);
        int cell = about(332);
        if (kind < 3) {
            return same(18, "mount()", x.mount(), model.mount());
        }
        if (kind < 6) {
            return putCell(cell, word());
        }
        if (kind < 12) {
            return judge();
        }
        if (kind < 13 && chance(10)) {
            x.format();
            model.format();
            return same(16, "format(); sync()", x.sync(), model.sync());
        }
        return same(22, "peek(" + cell + ")", x.peek(cell), model.peek(cell));
    }

    private boolean putCell(int cell, int word) {
        return same(19, "corrupt(" + cell + ", " + word + ")", x.corrupt(cell, word) ? 0 : -1,
            model.corrupt(cell, word) ? 0 : -1);
    }

    private boolean judge() {
        int got = x.fsck();
        int want = model.fsck();
        seen[16 * 21 + want]++;
        return same(22, "fsck()", got, want);
    }

    private boolean callWhileDown() {
        int kind = any(100);
        if (kind < 6) {
            return callOnWords() && callOnFiles() && callOnSpace();
        }
        if (kind < 9) {
            return same(16, "sync()", x.sync(), model.sync())
                && same(17, "crashAfter(3)", x.crashAfter(3) ? 0 : -1, model.crashAfter(3) ? 0 : -1);
        }
        if (kind < 40) {
            return spoilAndMend();
        }
        if (kind < 55) {
            return cleanChange();
        }
        if (kind < 62) {
            return putJournal();
        }
        if (kind < 66) {
            return putCell(about(332), word()) && judge();
        }
        if (kind < 90) {
            return judge() && same(18, "mount()", x.mount(), model.mount());
        }
        return callOnDisk();
    }

    /** One cell in or near its range; mostly it is put back. */
    private boolean spoilAndMend() {
        int cell = chance(55) ? any(42) : chance(40) ? 42 + any(4) : about(116);
        int before = model.peek(cell);
        boolean right = putCell(cell, nearWord(cell)) && judge();
        if (right && chance(85)) {
            right = putCell(cell, before);
        }
        return right && (!chance(30) || judge());
    }

    private int nearWord(int cell) {
        if (cell < 0 || cell >= 46 || chance(10)) {
            return word();
        }
        if (cell >= 42) {
            return cell < 45 ? about(34) : model.peek(45) ^ 1 << any(32);
        }
        int field = cell % 7;
        return field == 0 ? name() : field == 1 ? about(3) : field == 2 ? about(65) : chance(20) ? 0 : about(170);
    }

    /** A file more, in an empty slot and in a free run; or another word, quota or owner. */
    private boolean cleanChange() {
        int slot = any(6);
        if (model.peek(7 * slot) != 0) {
            return chance(50) ? putCell(7 * slot + 1, any(3)) : putCell(42 + any(3), 20 + any(13));
        }
        int order = any(4);
        int first = any(32 >> order) << order;
        int bits = (1 << (1 << order)) - 1 << first;
        if ((model.peek(45) & bits) != 0) {
            return putCell(46 + any(64), any(2));
        }
        int length = (2 << order) - any(2);
        return putCell(7 * slot, 20 + slot) && putCell(7 * slot + 1, any(3)) && putCell(7 * slot + 2, length)
            && putCell(7 * slot + 3, 1 + first + 32 * order) && judge()
            && putCell(45, model.peek(45) | bits) && putCell(46 + 2 * first, word()) && judge();
    }

    /** A journal of a few pairs that holds, or almost. */
    private boolean putJournal() {
        int n = 1 + any(3);
        int check = n;
        int address = chance(95) ? -1 : -2 - any(3);
        boolean right = true;
        for (int i = 0; i < n; i++) {
            address += chance(95) ? 1 + any(38) : 0;
            int word = nearWord(address);
            right &= putCell(112 + 2 * i, address) && putCell(113 + 2 * i, word);
            check = (check * 31 + address) * 31 + word;
        }
        right &= putCell(111, chance(90) ? check : check + 1) && putCell(110, chance(93) ? n : word());
        return right && (chance(20) || judge());
    }
}
