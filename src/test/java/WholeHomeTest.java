/** The greatest home and the greatest sync: six files use every block, and all 110 cells of home are changes. */
public final class WholeHomeTest {
    private static final int FILES = 6;
    private static final int TURNS = 4;
    private static final int FIRST_NAME = 94;
    private static final int CHANGES = Scenes.HOME_CELLS;
    /** How many cells stand on the disk when the journal begins to hold. */
    private static final int JOURNAL = 2 * CHANGES + 2;
    private static final int SYNC = JOURNAL + CHANGES + 1;
    /** The last run of each file: it fills the 14 blocks that the first three turns leave. */
    private static final int[] LAST_FIRST = {20, 18, 24, 26, 28, 30};
    private static final int[] LAST_ORDER = {2, 1, 1, 1, 1, 1};
    private static final Due DUE = new Due();

    public static void main(String[] args) {
        everyCellOfHomeHasItsPlace();
        aJournalOf110PairsFillsTheDisk();
        powerGoesAtEveryCellOfTheGreatestSync();
        mountAfterEveryCellOfTheGreatestSync();
        quotasAtTheUsage();
        noBlockIsFree();
        shrinkingChangesOneFileAlone();
        unlinkChangesOneFileAlone();
        DUE.end();
    }

    private static int first(int file, int turn) {
        return turn < TURNS - 1 ? 6 * turn + file : LAST_FIRST[file];
    }

    private static int order(int file, int turn) {
        return turn < TURNS - 1 ? 0 : LAST_ORDER[file];
    }

    private static int length(int file) {
        return 2 * (TURNS - 1) + (2 << LAST_ORDER[file]);
    }

    private static int word(int file, int position) {
        int word = 100 * file + position + 1;
        return file % 2 == 0 ? word : -word;
    }

    private static Counted wholeInMemory() {
        Counted x = new Counted();
        for (int file = 0; file < FILES; file++) {
            DUE.is("create", x.create(FIRST_NAME + file, 1 + file % 2), file);
        }
        for (int turn = 0; turn < TURNS; turn++) {
            for (int file = 0; file < FILES; file++) {
                x.open(FIRST_NAME + file);
                DUE.is("grow", x.truncate(0, turn < TURNS - 1 ? 2 * turn + 2 : length(file)), 0);
                x.close(0);
            }
        }
        for (int file = 0; file < FILES; file++) {
            x.open(FIRST_NAME + file);
            for (int p = 0; p < length(file); p++) {
                x.write(0, p, word(file, p));
            }
            x.close(0);
        }
        DUE.is("quota 0", x.setQuota(0, 0), 0);
        DUE.is("quota 1 at the usage", x.setQuota(1, 17), 0);
        DUE.is("quota 2 at the usage", x.setQuota(2, 15), 0);
        return x;
    }

    private static int[] wholeHome() {
        int[] home = new int[Scenes.HOME_CELLS];
        for (int file = 0; file < FILES; file++) {
            home[7 * file] = FIRST_NAME + file;
            home[7 * file + 1] = 1 + file % 2;
            home[7 * file + 2] = length(file);
            int position = 0;
            for (int turn = 0; turn < TURNS; turn++) {
                int begin = 46 + 2 * first(file, turn);
                home[7 * file + 3 + turn] = 1 + first(file, turn) + 32 * order(file, turn);
                for (int cell = begin; cell < begin + (2 << order(file, turn)); cell++) {
                    home[cell] = word(file, position++);
                }
            }
        }
        home[43] = 17;
        home[44] = 15;
        home[45] = -1;
        return home;
    }

    private static int[] freshHome() {
        int[] home = new int[Scenes.HOME_CELLS];
        home[42] = 32;
        home[43] = 32;
        home[44] = 32;
        return home;
    }

    /** The cells that the sync writes and their words, by turns, in its order. */
    private static int[] writes() {
        int[] home = wholeHome();
        int[] writes = new int[2 * SYNC];
        int check = CHANGES;
        for (int cell = 0; cell < CHANGES; cell++) {
            put(writes, 2 * cell, 112 + 2 * cell, cell);
            put(writes, 2 * cell + 1, 113 + 2 * cell, home[cell]);
            put(writes, JOURNAL + cell, cell, home[cell]);
            check = (check * 31 + cell) * 31 + home[cell];
        }
        put(writes, JOURNAL - 2, 111, check);
        put(writes, JOURNAL - 1, 110, CHANGES);
        put(writes, SYNC - 1, 110, 0);
        return writes;
    }

    private static void put(int[] writes, int i, int cell, int word) {
        writes[2 * i] = cell;
        writes[2 * i + 1] = word;
    }

    private static int[] diskAfter(int cells) {
        int[] disk = java.util.Arrays.copyOf(freshHome(), Scenes.CELLS);
        int[] writes = writes();
        for (int i = 0; i < cells; i++) {
            disk[writes[2 * i]] = writes[2 * i + 1];
        }
        return disk;
    }

    private static void everyCellOfHomeHasItsPlace() {
        Counted x = wholeInMemory();
        Scenes.isDisk(DUE, "before", x, freshHome());
        DUE.is("sync", x.sync(), CHANGES);
        Scenes.isDisk(DUE, "after", x, wholeHome());
        DUE.is("fsck", x.fsck(), 0);
        DUE.is("no change is left", x.sync(), 0);
    }

    private static void aJournalOf110PairsFillsTheDisk() {
        Counted x = wholeInMemory();
        x.sync();
        Scenes.isDisk(DUE, "all", x, diskAfter(SYNC));
    }

    private static void powerGoesAtEveryCellOfTheGreatestSync() {
        for (int n = 0; n <= SYNC + 1; n++) {
            Counted x = wholeInMemory();
            x.crashAfter(n);
            DUE.is("fuse " + n, x.sync(), n < SYNC ? BuddyFiles.DOWN : CHANGES);
            Scenes.isDisk(DUE, "fuse " + n, x, diskAfter(Math.min(n, SYNC)));
        }
    }

    private static void mountAfterEveryCellOfTheGreatestSync() {
        for (int n = 0; n < SYNC; n++) {
            Counted x = wholeInMemory();
            x.crashAfter(n);
            x.sync();
            boolean whole = n >= JOURNAL;
            DUE.is("number after " + n, x.peek(110), whole ? CHANGES : 0);
            DUE.is("fsck after " + n, x.fsck(), 0);
            DUE.is("mount after " + n, x.mount(), 0);
            DUE.is("number when mounted after " + n, x.peek(110), 0);
            Scenes.isDisk(DUE, "mounted after " + n, x, whole ? wholeHome() : freshHome());
            DUE.is("the last file after " + n, x.open(99), whole ? 0 : BuddyFiles.NO_FILE);
            DUE.is("its last word after " + n, x.read(0, 9), whole ? word(5, 9) : 0);
            DUE.is("in sync after " + n, x.sync(), 0);
        }
    }

    private static void quotasAtTheUsage() {
        Counted x = wholeInMemory();
        DUE.is("usage 0", x.usage(0), 0);
        DUE.is("usage 1", x.usage(1), 17);
        DUE.is("usage 2", x.usage(2), 15);
        DUE.is("below usage 1", x.setQuota(1, 16), BuddyFiles.BELOW_USAGE);
        DUE.is("below usage 2", x.setQuota(2, 14), BuddyFiles.BELOW_USAGE);
        x.sync();
        x.setQuota(0, 1);
        x.crashAfter(0);
        x.sync();
        DUE.is("clean at the usage", x.fsck(), 0);
        x.corrupt(43, 16);
        DUE.is("one below usage 1", x.fsck(), 7);
        x.corrupt(43, 17);
        x.corrupt(44, 14);
        DUE.is("one below usage 2", x.fsck(), 7);
    }

    private static void noBlockIsFree() {
        Counted x = wholeInMemory();
        for (int order = 0; order <= 5; order++) {
            DUE.is("free " + order, x.free(order), 0);
        }
        for (int file = 0; file < FILES; file++) {
            x.open(FIRST_NAME + file);
            DUE.is("a word more", x.write(0, length(file), 1), BuddyFiles.NO_SPACE);
            DUE.is("the last word", x.read(0, length(file) - 1), word(file, length(file) - 1));
            DUE.is("the length", x.length(0), length(file));
            x.close(0);
        }
        DUE.is("a seventh file", x.create(1, 0), BuddyFiles.NO_SLOT);
        x.unlink(FIRST_NAME);
        DUE.is("blocks 0, 6, 12", x.free(0), 3);
        DUE.is("blocks 20 .. 23", x.free(2), 1);
        DUE.is("its slot", x.create(1, 0), 0);
    }

    /** The whole home after one file was shrunk: its runs are kept up to the one that holds the last word. */
    private static int[] homeWithShrunk(int file, int length) {
        int[] home = wholeHome();
        home[7 * file + 2] = length;
        int position = 0;
        for (int turn = 0; turn < TURNS; turn++) {
            boolean kept = position < length;
            for (int block = first(file, turn); block < first(file, turn) + (1 << order(file, turn)); block++) {
                for (int cell = 46 + 2 * block; cell <= 47 + 2 * block; cell++) {
                    home[cell] = position < length ? home[cell] : 0;
                    position++;
                }
                home[45] &= kept ? -1 : ~(1 << block);
            }
            home[7 * file + 3 + turn] = kept ? home[7 * file + 3 + turn] : 0;
        }
        return home;
    }

    private static void shrinkingChangesOneFileAlone() {
        for (int file = 0; file < FILES; file++) {
            for (int length = 0; length <= length(file); length++) {
                Counted x = wholeInMemory();
                x.open(FIRST_NAME + file);
                DUE.is("truncate", x.truncate(0, length), 0);
                x.sync();
                Scenes.isDisk(DUE, "file " + file + " of " + length, x, homeWithShrunk(file, length));
            }
        }
    }

    private static void unlinkChangesOneFileAlone() {
        for (int file = 0; file < FILES; file++) {
            int[] home = homeWithShrunk(file, 0);
            java.util.Arrays.fill(home, 7 * file, 7 * file + 7, 0);
            Counted x = wholeInMemory();
            DUE.is("unlink", x.unlink(FIRST_NAME + file), 0);
            x.sync();
            Scenes.isDisk(DUE, "without file " + file, x, home);
            x = wholeInMemory();
            x.rename(FIRST_NAME + (file + 1) % FILES, FIRST_NAME + file);
            x.sync();
            home[7 * ((file + 1) % FILES)] = FIRST_NAME + file;
            Scenes.isDisk(DUE, "renamed over file " + file, x, home);
        }
    }
}
