/** Promises 16 to 18: sync, crashAfter, mount. */
public final class SyncTest {
    private static final Due DUE = new Due();

    public static void main(String[] args) {
        syncAnswersTheChanges();
        syncWithoutAChangeWritesNothing();
        syncWritesTheJournal();
        syncOfEverything();
        syncLeavesMemory();
        powerGoesAtEveryCell();
        powerGoesInALongSync();
        fuseCountsOverSyncs();
        fuseStandsWhenNothingIsWritten();
        fuseIsGoneAfterwards();
        fuseIsReplaced();
        fuseAtEachCellOfOneChange();
        handlesAreGoneAfterwards();
        crashAfterRefuses();
        mountTakesTheDisk();
        mountRefuses();
        mountReplaysAlsoAnUncleanHome();
        mountChangesHomeAndTheNumberAlone();
        mountLeavesAJournalThatDoesNotHold();
        syncOverAStaleJournal();
        syncRefusesWhenDown();
        allRefuseWhenDown();
        DUE.end();
    }

    /** One file with three words on the disk, and two more changes in memory. */
    private static Counted withChanges() {
        Counted x = new Counted();
        x.create(5, 1);
        x.open(5);
        x.write(0, 2, 77);
        x.sync();
        x.write(0, 0, -78);
        x.write(0, 4, 79);
        return x;
    }

    private static void syncAnswersTheChanges() {
        Counted x = new Counted();
        DUE.is("nothing", x.sync(), 0);
        x.create(5, 0);
        DUE.is("a name", x.sync(), 1);
        x.create(6, 1);
        DUE.is("a name and an owner", x.sync(), 2);
        x.open(5);
        x.write(0, 0, 0);
        DUE.is("length, extent, map", x.sync(), 3);
        x.write(0, 0, 4);
        x.write(0, 0, 0);
        DUE.is("there and back", x.sync(), 0);
        x.unlink(6);
        x.create(7, 1);
        DUE.is("another name", x.sync(), 1);
    }

    /** Also the number that a journal left behind, which does not hold, stays. */
    private static void syncWithoutAChangeWritesNothing() {
        Counted x = withWrongCheck();
        int[] before = Scenes.diskOf(withWrongCheck());
        DUE.is("mount", x.mount(), 0);
        DUE.is("nothing", x.sync(), 0);
        DUE.is("a fuse for no cell", x.crashAfter(0), true);
        DUE.is("nothing", x.sync(), 0);
        x.create(1, 0);
        x.unlink(1);
        DUE.is("nothing any more", x.sync(), 0);
        Scenes.isDisk(DUE, "nothing", x, before);
        DUE.is("up", x.usage(0), 0);
    }

    private static void syncWritesTheJournal() {
        Counted x = withChanges();
        DUE.is("changes", x.sync(), 5);
        int[] pairs = {2, 5, 4, 1 + 2, 45, 7, 46, -78, 50, 79};
        int check = 5;
        for (int i = 0; i < pairs.length; i++) {
            DUE.is("journal " + i, x.peek(112 + i), pairs[i]);
            check = check * 31 + pairs[i];
        }
        DUE.is("check", x.peek(111), check);
        DUE.is("number", x.peek(110), 0);
        DUE.is("the sixth pair of the sync before", x.peek(122), 48);
        DUE.is("the sixth pair of the sync before", x.peek(123), 77);
        for (int cell = 124; cell < 332; cell++) {
            DUE.is("behind the pairs " + cell, x.peek(cell), 0);
        }
        DUE.is("length", x.peek(2), 5);
        DUE.is("extent", x.peek(4), 3);
        DUE.is("word 0", x.peek(46), -78);
        DUE.is("word 2", x.peek(48), 77);
        DUE.is("word 4", x.peek(50), 79);
        x.setQuota(2, 9);
        DUE.is("a short one", x.sync(), 1);
        DUE.is("its address", x.peek(112), 44);
        DUE.is("its word", x.peek(113), 9);
        DUE.is("the old rest", x.peek(114), 4);
        DUE.is("its check", x.peek(111), (31 + 44) * 31 + 9);
    }

    /** Six files use every block, so that all cells of home but the 0s change. */
    private static void syncOfEverything() {
        Counted x = new Counted();
        for (int k = 0; k < 6; k++) {
            x.create(90 + k, k < 3 ? 1 : 2);
        }
        for (int k = 0; k < 4; k++) {
            x.open(90 + k);
            x.truncate(k, 16);
            for (int p = 0; p < 16; p++) {
                x.write(k, p, Integer.MIN_VALUE + 100 * k + p);
            }
        }
        int changes = 6 + 6 + 4 + 4 + 1 + 64;
        DUE.is("changes", x.sync(), changes);
        DUE.is("clean", x.fsck(), 0);
        DUE.is("map", x.peek(45), -1);
        for (int i = 0; i < 64; i++) {
            DUE.is("word " + i, x.peek(46 + i), Integer.MIN_VALUE + 100 * (i / 16) + i % 16);
        }
        DUE.is("the last address", x.peek(112 + 2 * (changes - 1)), 109);
        DUE.is("behind it", x.peek(112 + 2 * changes), 0);
    }

    private static void syncLeavesMemory() {
        Counted x = withChanges();
        x.sync();
        DUE.is("handle", x.length(0), 5);
        DUE.is("word", x.read(0, 0), -78);
        DUE.is("again", x.sync(), 0);
    }

    /** What stands on the disk after so many of the cells of the sync of withChanges(). */
    private static int[] diskAfter(int cells) {
        Counted x = withChanges();
        int[] disk = Scenes.diskOf(x);
        int[] order = {112, 2, 113, 5, 114, 4, 115, 3, 116, 45, 117, 7, 118, 46, 119, -78, 120, 50, 121, 79,
            111, 0, 110, 5, 2, 5, 4, 3, 45, 7, 46, -78, 50, 79, 110, 0};
        int check = 5;
        for (int i = 0; i < 10; i++) {
            check = check * 31 + order[2 * i + 1];
        }
        order[21] = check;
        for (int i = 0; i < cells; i++) {
            disk[order[2 * i]] = order[2 * i + 1];
        }
        return disk;
    }

    private static void powerGoesAtEveryCell() {
        int all = 3 * 5 + 3;
        for (int n = 0; n <= all + 1; n++) {
            String when = "fuse " + n;
            Counted x = withChanges();
            DUE.is(when, x.crashAfter(n), true);
            DUE.is(when + " sync", x.sync(), n < all ? BuddyFiles.DOWN : 5);
            Scenes.isDisk(DUE, when, x, diskAfter(n < all ? n : all));
        }
        for (int n = 0; n < all; n++) {
            String when = "fuse " + n;
            Counted x = withChanges();
            x.crashAfter(n);
            x.sync();
            boolean whole = n >= 12;
            DUE.is(when + " down", x.length(0), BuddyFiles.DOWN);
            DUE.is(when + " fsck", x.fsck(), 0);
            DUE.is(when + " fsck leaves the journal", x.peek(110), n >= 12 ? 5 : 0);
            DUE.is(when + " mount", x.mount(), 0);
            DUE.is(when + " number", x.peek(110), 0);
            DUE.is(when + " handle", x.length(0), BuddyFiles.BAD_HANDLE);
            DUE.is(when + " open", x.open(5), 0);
            DUE.is(when + " length", x.length(0), whole ? 5 : 3);
            DUE.is(when + " word 0", x.read(0, 0), whole ? -78 : 0);
            DUE.is(when + " word 2", x.read(0, 2), 77);
            DUE.is(when + " word 4", x.read(0, 4), whole ? 79 : 0);
            DUE.is(when + " usage", x.usage(1), whole ? 3 : 2);
            DUE.is(when + " sync", x.sync(), 0);
            DUE.is(when + " clean", x.fsck(), 0);
            x.setQuota(0, 1);
            DUE.is(when + " no fuse", x.sync(), 1);
        }
    }

    private static Counted withManyChanges() {
        Counted x = new Counted();
        x.create(1, 0);
        x.create(2, 1);
        x.open(1);
        x.open(2);
        x.truncate(0, 15);
        x.truncate(1, 15);
        for (int p = 0; p < 20; p++) {
            x.write(p % 2, p / 2, 31 * p + 1);
        }
        x.sync();
        for (int p = 0; p < 30; p++) {
            x.write(p % 2, p / 2, -(p * p) - 1);
        }
        x.close(1);
        x.unlink(2);
        x.rename(1, 3);
        return x;
    }

    private static void powerGoesInALongSync() {
        Counted x = withManyChanges();
        int[] before = Scenes.homeOf(x);
        int changes = x.sync();
        int[] after = Scenes.homeOf(x);
        DUE.is("many changes", changes > 30, true);
        for (int n = 0; n < 3 * changes + 3; n++) {
            x = withManyChanges();
            x.crashAfter(n);
            DUE.is("fuse " + n, x.sync(), BuddyFiles.DOWN);
            DUE.is("fuse " + n + " fsck", x.fsck(), 0);
            DUE.is("fuse " + n + " mount", x.mount(), 0);
            boolean whole = n >= 2 * changes + 2;
            for (int cell = 0; cell < 110; cell++) {
                DUE.is("fuse " + n + " peek(" + cell + ")", x.peek(cell), whole ? after[cell] : before[cell]);
            }
        }
    }

    private static void fuseCountsOverSyncs() {
        Counted x = new Counted();
        x.crashAfter(11);
        x.create(1, 0);
        DUE.is("6 cells", x.sync(), 1);
        x.create(2, 0);
        DUE.is("5 of 6 cells", x.sync(), BuddyFiles.DOWN);
        DUE.is("all but the last", x.peek(110), 1);
        DUE.is("in home", x.peek(7), 2);
        x = new Counted();
        x.crashAfter(12);
        x.create(1, 0);
        x.sync();
        x.create(2, 0);
        DUE.is("all 12 cells", x.sync(), 1);
        DUE.is("up", x.open(2), 0);
        x.create(3, 0);
        DUE.is("not one more", x.sync(), BuddyFiles.DOWN);
        DUE.is("nothing of it", x.peek(112), 7);
    }

    private static void fuseStandsWhenNothingIsWritten() {
        Counted x = new Counted();
        x.crashAfter(0);
        DUE.is("nothing to write", x.sync(), 0);
        DUE.is("nothing to write", x.sync(), 0);
        x.create(1, 0);
        x.open(1);
        x.write(0, 0, 5);
        DUE.is("memory takes no cells", x.read(0, 0), 5);
        DUE.is("the first cell", x.sync(), BuddyFiles.DOWN);
    }

    private static void fuseIsGoneAfterwards() {
        Counted x = new Counted();
        x.crashAfter(0);
        x.create(1, 0);
        x.sync();
        x.mount();
        x.create(1, 0);
        DUE.is("no fuse after mount", x.sync(), 1);
    }

    private static void fuseIsReplaced() {
        Counted x = new Counted();
        DUE.is("none, where none was", x.crashAfter(-1), true);
        DUE.is("set", x.crashAfter(0), true);
        DUE.is("replaced by a greater", x.crashAfter(6), true);
        x.create(1, 0);
        DUE.is("6 cells", x.sync(), 1);
        DUE.is("none", x.crashAfter(-1), true);
        x.create(2, 0);
        DUE.is("as many as you like", x.sync(), 1);
        DUE.is("the most", x.crashAfter(Integer.MAX_VALUE), true);
        x.create(3, 0);
        DUE.is("far from it", x.sync(), 1);
        DUE.is("replaced by a smaller", x.crashAfter(5), true);
        x.create(4, 0);
        DUE.is("5 of 6", x.sync(), BuddyFiles.DOWN);
    }

    /** One change takes six cells: a pair, check, number, home, number. */
    private static void fuseAtEachCellOfOneChange() {
        int[] cells = {112, 113, 111, 110, 44, 110};
        int[] words = {44, 7, (31 + 44) * 31 + 7, 1, 7, 0};
        for (int n = 0; n <= 6; n++) {
            int[] want = Scenes.diskOf(new Counted());
            for (int i = 0; i < n; i++) {
                want[cells[i]] = words[i];
            }
            Counted x = new Counted();
            x.setQuota(2, 7);
            x.crashAfter(n);
            DUE.is("fuse " + n, x.sync(), n < 6 ? BuddyFiles.DOWN : 1);
            Scenes.isDisk(DUE, "fuse " + n, x, want);
            DUE.is("mount " + n, x.mount(), n < 6 ? 0 : BuddyFiles.BUSY);
            DUE.is("quota " + n, x.peek(44), n < 4 ? 32 : 7);
            DUE.is("number " + n, x.peek(110), 0);
        }
    }

    private static void handlesAreGoneAfterwards() {
        Counted x = new Counted();
        x.create(1, 0);
        x.sync();
        for (int handle = 0; handle < 4; handle++) {
            x.open(1);
        }
        x.create(2, 0);
        x.crashAfter(0);
        x.sync();
        x.mount();
        for (int handle = 0; handle < 4; handle++) {
            DUE.is("handle " + handle, x.close(handle), BuddyFiles.BAD_HANDLE);
        }
        DUE.is("no handle makes it busy", x.unlink(1), 0);
        DUE.is("nor is the other file there", x.open(2), BuddyFiles.NO_FILE);
    }

    private static void crashAfterRefuses() {
        Counted x = new Counted();
        x.crashAfter(2);
        DUE.is("-2", x.crashAfter(-2), false);
        DUE.is("least", x.crashAfter(Integer.MIN_VALUE), false);
        x.create(1, 0);
        DUE.is("the fuse stands", x.sync(), BuddyFiles.DOWN);
        DUE.is("two cells", x.peek(113), 1);
        DUE.is("not a third", x.peek(111), 0);
        DUE.is("down", x.crashAfter(0), false);
        DUE.is("down", x.crashAfter(-1), false);
        DUE.is("down", x.crashAfter(-2), false);
        x.mount();
        x.create(2, 0);
        DUE.is("none was set", x.sync(), 1);
    }

    private static Counted withChangedDisk() {
        Counted x = withChanges();
        x.setQuota(2, 7);
        x.crashAfter(0);
        x.sync();
        DUE.is("another name", x.corrupt(0, 6), true);
        DUE.is("another owner", x.corrupt(1, 2), true);
        DUE.is("another word", x.corrupt(48, 1234), true);
        DUE.is("another quota", x.corrupt(44, 2), true);
        return x;
    }

    private static void mountTakesTheDisk() {
        Counted x = withChangedDisk();
        DUE.is("mount", x.mount(), 0);
        Scenes.isDisk(DUE, "mount", x, Scenes.diskOf(withChangedDisk()));
        DUE.is("no such file", x.open(5), BuddyFiles.NO_FILE);
        DUE.is("its name", x.open(6), 0);
        DUE.is("its word", x.read(0, 2), 1234);
        DUE.is("its owner", x.usage(2), 2);
        DUE.is("its quota", x.write(0, 4, 1), BuddyFiles.OVER_QUOTA);
        DUE.is("free", x.free(1), 1);
        DUE.is("in sync", x.sync(), 0);
    }

    private static Counted withUncleanDisk() {
        Counted x = Scenes.down();
        x.corrupt(45, 1);
        x.corrupt(331, 5);
        return x;
    }

    private static void mountRefuses() {
        Counted x = new Counted();
        x.create(1, 0);
        x.open(1);
        DUE.is("up", x.mount(), BuddyFiles.BUSY);
        DUE.is("handle stays", x.length(0), 0);
        x = withUncleanDisk();
        DUE.is("unclean", x.mount(), BuddyFiles.UNCLEAN);
        DUE.is("unclean again", x.mount(), BuddyFiles.UNCLEAN);
        Scenes.isDisk(DUE, "unclean", x, Scenes.diskOf(withUncleanDisk()));
        DUE.is("down", x.open(1), BuddyFiles.DOWN);
        DUE.is("down", x.crashAfter(1), false);
        DUE.is("corrupt", x.corrupt(45, 0), true);
        DUE.is("clean", x.mount(), 0);
        DUE.is("up", x.mount(), BuddyFiles.BUSY);
    }

    private static void mountReplaysAlsoAnUncleanHome() {
        Counted x = Scenes.down();
        Scenes.putJournal(x, 43, 5, 46, 9);
        DUE.is("fsck", x.fsck(), 8);
        DUE.is("mount", x.mount(), BuddyFiles.UNCLEAN);
        DUE.is("quota was put", x.peek(43), 5);
        DUE.is("word was put", x.peek(46), 9);
        DUE.is("number", x.peek(110), 0);
        DUE.is("pairs stay", x.peek(113), 5);
        DUE.is("down", x.usage(0), BuddyFiles.DOWN);
        DUE.is("fsck stays", x.fsck(), 8);
        x.corrupt(46, 0);
        DUE.is("mount", x.mount(), 0);
        DUE.is("quota 5", x.setQuota(1, 5), 0);
        DUE.is("in sync", x.sync(), 0);
    }

    /** Two pairs, and cells behind them; with a word in cell 46 the home is unclean. */
    private static Counted withJournal(int word) {
        Counted x = Scenes.down();
        x.corrupt(116, 47);
        x.corrupt(117, 9);
        x.corrupt(331, 5);
        Scenes.putJournal(x, 43, 5, 46, word);
        return x;
    }

    private static void mountChangesHomeAndTheNumberAlone() {
        for (int word = 0; word <= 1; word++) {
            int[] want = Scenes.diskOf(withJournal(word));
            want[43] = 5;
            want[46] = word;
            want[110] = 0;
            Counted x = withJournal(word);
            DUE.is("mount", x.mount(), word == 0 ? 0 : BuddyFiles.UNCLEAN);
            Scenes.isDisk(DUE, "mount", x, want);
        }
    }

    private static Counted withWrongCheck() {
        Counted x = Scenes.down();
        Scenes.putJournal(x, 43, 5);
        x.corrupt(111, x.peek(111) + 1);
        return x;
    }

    private static void mountLeavesAJournalThatDoesNotHold() {
        Counted x = withWrongCheck();
        DUE.is("mount", x.mount(), 0);
        Scenes.isDisk(DUE, "mount", x, Scenes.diskOf(withWrongCheck()));
        DUE.is("quota was not put", x.setQuota(1, 32), 0);
        DUE.is("in sync", x.sync(), 0);
        DUE.is("number stays", x.peek(110), 1);
    }

    /** A number that a journal left behind stands while the next one is written. */
    private static void syncOverAStaleJournal() {
        for (int n = 0; n < 6; n++) {
            Counted x = Scenes.down();
            Scenes.putJournal(x, 43, 5);
            x.corrupt(111, (31 + 42) * 31 + 6);
            DUE.is("mount", x.mount(), 0);
            x.setQuota(0, 6);
            x.crashAfter(n);
            DUE.is("sync " + n, x.sync(), BuddyFiles.DOWN);
            DUE.is("mount " + n, x.mount(), 0);
            DUE.is("the quota after " + n, x.peek(42), n < 2 ? 32 : 6);
            DUE.is("the number after " + n, x.peek(110), n < 2 ? 1 : 0);
        }
    }

    /** Also where memory was the home on the disk when the power went, so that there would be no change. */
    private static void syncRefusesWhenDown() {
        for (int n = 0; n < 18; n++) {
            Counted x = withChanges();
            x.crashAfter(n);
            DUE.is("goes down by the fuse at " + n, x.sync(), BuddyFiles.DOWN);
            DUE.is("is down after " + n, x.sync(), BuddyFiles.DOWN);
            Scenes.isDisk(DUE, "nothing more after " + n, x, diskAfter(n));
        }
    }

    private static void allRefuseWhenDown() {
        Counted x = Scenes.down();
        DUE.is("sync", x.sync(), BuddyFiles.DOWN);
        DUE.is("sync", x.sync(), BuddyFiles.DOWN);
        Scenes.isDisk(DUE, "down", x, Scenes.diskOf(Scenes.down()));
    }
}
