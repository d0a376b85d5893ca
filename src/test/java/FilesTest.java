/** Promises 1 to 6 and 12: a new object, format, create, unlink, open, close, rename. */
public final class FilesTest {
    private static final int[] NO_NAMES = {0, -1, 100, 101, Integer.MIN_VALUE, Integer.MAX_VALUE};
    private static final int[] NO_OWNERS = {-1, 3, Integer.MIN_VALUE, Integer.MAX_VALUE};
    private static final int[] NO_HANDLES = {-1, 4, 5, Integer.MIN_VALUE, Integer.MAX_VALUE};
    private static final Due DUE = new Due();

    public static void main(String[] args) {
        newObject();
        formatWhileUp();
        formatWhileDown();
        formatDropsTheFuse();
        formatDropsTheJournal();
        createAnswersTheLeastSlot();
        createRefuses();
        createRefusesInOrder();
        createFillsEverySlot();
        unlinkTakesAway();
        unlinkRefuses();
        openAnswersTheLeastHandle();
        openRefuses();
        closeCloses();
        closeRefuses();
        everyHandleMakesBusy();
        renameNames();
        renameReplaces();
        renameRefuses();
        renameRefusesInOrder();
        renameToTheEndsOfTheNames();
        allRefuseWhenDown();
        DUE.end();
    }

    private static void isFresh(String when, Counted x) {
        for (int cell = 0; cell < 332; cell++) {
            boolean quota = cell >= 42 && cell <= 44;
            DUE.is(when + " peek(" + cell + ")", x.peek(cell), quota ? 32 : 0);
        }
        DUE.is(when + " fsck", x.fsck(), 0);
        DUE.is(when + " mount", x.mount(), BuddyFiles.BUSY);
        DUE.is(when + " sync", x.sync(), 0);
        for (int handle = 0; handle < 4; handle++) {
            DUE.is(when + " close " + handle, x.close(handle), BuddyFiles.BAD_HANDLE);
        }
        for (int owner = 0; owner < 3; owner++) {
            DUE.is(when + " usage " + owner, x.usage(owner), 0);
        }
        for (int order = 0; order <= 5; order++) {
            DUE.is(when + " free " + order, x.free(order), order == 5 ? 1 : 0);
        }
        DUE.is(when + " no file", x.open(1), BuddyFiles.NO_FILE);
        DUE.is(when + " create", x.create(1, 2), 0);
        DUE.is(when + " open", x.open(1), 0);
        DUE.is(when + " whole space", x.truncate(0, 64), 0);
    }

    private static void newObject() {
        isFresh("new", new Counted());
    }

    private static void formatWhileUp() {
        Counted x = new Counted();
        x.create(1, 0);
        x.create(2, 1);
        x.open(1);
        x.open(2);
        x.open(2);
        x.open(1);
        x.write(0, 9, 5);
        x.setQuota(2, 3);
        x.sync();
        x.write(1, 3, 6);
        x.format();
        isFresh("format up", x);
    }

    private static void formatWhileDown() {
        for (int part = 0; part < 4; part++) {
            Counted x = Scenes.down();
            for (int cell = part; cell < 332; cell += 4) {
                x.corrupt(cell, -7 - cell);
            }
            DUE.is("spoilt", x.fsck() != 0, true);
            x.format();
            isFresh("format down", x);
        }
    }

    private static void formatDropsTheFuse() {
        Counted x = new Counted();
        x.crashAfter(0);
        x.format();
        x.setQuota(0, 1);
        DUE.is("no fuse after format", x.sync(), 1);
    }

    private static void formatDropsTheJournal() {
        Counted x = new Counted();
        x.create(1, 0);
        x.crashAfter(4);
        x.sync();
        DUE.is("the journal holds", x.peek(110), 1);
        x.format();
        isFresh("format of a journal", x);
    }

    private static void createAnswersTheLeastSlot() {
        Counted x = new Counted();
        DUE.is("create 1", x.create(1, 0), 0);
        DUE.is("create 99", x.create(99, 2), 1);
        DUE.is("create 50", x.create(50, 1), 2);
        DUE.is("unlink 99", x.unlink(99), 0);
        DUE.is("create 3", x.create(3, 1), 1);
        DUE.is("create 4", x.create(4, 1), 3);
        DUE.is("open 3", x.open(3), 0);
        DUE.is("length of a new file", x.length(0), 0);
        DUE.is("extent of a new file", x.extent(0, 0), 0);
        DUE.is("sync", x.sync(), 7);
        int[] names = {1, 3, 50, 4, 0, 0};
        int[] owners = {0, 1, 1, 1, 0, 0};
        for (int slot = 0; slot < 6; slot++) {
            DUE.is("name of slot " + slot, x.peek(7 * slot), names[slot]);
            DUE.is("owner of slot " + slot, x.peek(7 * slot + 1), owners[slot]);
        }
    }

    private static void createRefuses() {
        Counted x = new Counted();
        for (int name : NO_NAMES) {
            DUE.is("create name " + name, x.create(name, 0), BuddyFiles.BAD_ARGUMENT);
        }
        for (int owner : NO_OWNERS) {
            DUE.is("create owner " + owner, x.create(5, owner), BuddyFiles.BAD_ARGUMENT);
        }
        DUE.is("nothing made", x.sync(), 0);
        for (int k = 0; k < 6; k++) {
            DUE.is("create " + k, x.create(10 + k, k % 3), k);
        }
        DUE.is("a seventh", x.create(9, 0), BuddyFiles.NO_SLOT);
        DUE.is("twice", x.create(15, 0), BuddyFiles.EXISTS);
        DUE.is("unlink", x.unlink(12), 0);
        DUE.is("again", x.create(9, 0), 2);
    }

    private static void createRefusesInOrder() {
        Counted x = new Counted();
        x.create(1, 0);
        DUE.is("bad owner before exists", x.create(1, 3), BuddyFiles.BAD_ARGUMENT);
        for (int k = 2; k <= 6; k++) {
            x.create(k, 0);
        }
        DUE.is("exists before no slot", x.create(4, 2), BuddyFiles.EXISTS);
        DUE.is("bad name before no slot", x.create(100, 2), BuddyFiles.BAD_ARGUMENT);
        DUE.is("bad owner before no slot", x.create(7, -1), BuddyFiles.BAD_ARGUMENT);
    }

    private static void createFillsEverySlot() {
        for (int gone = 0; gone < 6; gone++) {
            Counted x = new Counted();
            for (int slot = 0; slot < 6; slot++) {
                DUE.is("create " + slot, x.create(99 - slot, slot % 3), slot);
            }
            DUE.is("six files", x.create(1, 0), BuddyFiles.NO_SLOT);
            DUE.is("unlink in slot " + gone, x.unlink(99 - gone), 0);
            DUE.is("the slot without a file", x.create(1, 2), gone);
            DUE.is("six again", x.create(99 - gone, 0), BuddyFiles.NO_SLOT);
            for (int slot = 0; slot < 6; slot++) {
                int name = slot == gone ? 1 : 99 - slot;
                DUE.is("exists in slot " + slot, x.create(name, 0), BuddyFiles.EXISTS);
            }
        }
    }

    private static void unlinkTakesAway() {
        Counted x = new Counted();
        x.create(1, 2);
        x.create(2, 1);
        x.open(1);
        x.open(2);
        x.write(0, 1, 10);
        x.write(1, 1, 20);
        x.write(0, 9, 11);
        x.sync();
        x.close(0);
        DUE.is("unlink", x.unlink(1), 0);
        DUE.is("its usage", x.usage(2), 0);
        DUE.is("the other's usage", x.usage(1), 1);
        DUE.is("the other's word", x.read(1, 1), 20);
        DUE.is("gone", x.open(1), BuddyFiles.NO_FILE);
        DUE.is("unlink twice", x.unlink(1), BuddyFiles.NO_FILE);
        x.sync();
        for (int cell = 0; cell < 7; cell++) {
            DUE.is("slot cell " + cell, x.peek(cell), 0);
        }
        DUE.is("map", x.peek(45), 2);
        for (int i = 0; i < 64; i++) {
            DUE.is("word " + i, x.peek(46 + i), i == 3 ? 20 : 0);
        }
        DUE.is("fsck", x.fsck(), 0);
    }

    private static void unlinkRefuses() {
        Counted x = new Counted();
        x.create(1, 0);
        for (int name : NO_NAMES) {
            DUE.is("unlink " + name, x.unlink(name), BuddyFiles.NO_FILE);
        }
        DUE.is("unlink another", x.unlink(2), BuddyFiles.NO_FILE);
        x.open(1);
        x.open(1);
        DUE.is("open twice", x.unlink(1), BuddyFiles.BUSY);
        x.close(0);
        DUE.is("open once", x.unlink(1), BuddyFiles.BUSY);
        x.write(1, 0, 8);
        DUE.is("still there", x.read(1, 0), 8);
        x.close(1);
        DUE.is("closed", x.unlink(1), 0);
    }

    private static void openAnswersTheLeastHandle() {
        Counted x = new Counted();
        x.create(1, 0);
        x.create(2, 0);
        DUE.is("open 1", x.open(1), 0);
        DUE.is("open 2", x.open(2), 1);
        DUE.is("open 1 again", x.open(1), 2);
        DUE.is("close 1", x.close(1), 0);
        DUE.is("close 0", x.close(0), 0);
        DUE.is("least", x.open(2), 0);
        DUE.is("next", x.open(1), 1);
        x.write(0, 0, 22);
        x.write(1, 0, 11);
        DUE.is("both handles of one file", x.read(2, 0), 11);
        DUE.is("the other file", x.read(0, 0), 22);
    }

    private static void openRefuses() {
        Counted x = new Counted();
        x.create(1, 0);
        for (int name : NO_NAMES) {
            DUE.is("open " + name, x.open(name), BuddyFiles.NO_FILE);
        }
        for (int k = 0; k < 4; k++) {
            DUE.is("open", x.open(1), k);
        }
        DUE.is("a fifth", x.open(1), BuddyFiles.NO_HANDLE);
        DUE.is("no file before no handle", x.open(2), BuddyFiles.NO_FILE);
        x.close(3);
        DUE.is("one closed", x.open(1), 3);
    }

    private static void closeCloses() {
        Counted x = new Counted();
        x.create(1, 0);
        x.open(1);
        x.open(1);
        x.write(0, 0, 4);
        DUE.is("close", x.close(0), 0);
        DUE.is("no word", x.read(0, 0), 0);
        DUE.is("no length", x.length(0), BuddyFiles.BAD_HANDLE);
        DUE.is("the other handle", x.read(1, 0), 4);
    }

    private static void closeRefuses() {
        Counted x = new Counted();
        x.create(1, 0);
        for (int handle : NO_HANDLES) {
            DUE.is("close " + handle, x.close(handle), BuddyFiles.BAD_HANDLE);
        }
        DUE.is("not open", x.close(0), BuddyFiles.BAD_HANDLE);
        x.open(1);
        DUE.is("open", x.close(0), 0);
        DUE.is("twice", x.close(0), BuddyFiles.BAD_HANDLE);
    }

    /** Only one handle is open, each time another. */
    private static void everyHandleMakesBusy() {
        for (int left = 0; left < 4; left++) {
            Counted x = new Counted();
            x.create(1, 0);
            x.create(2, 0);
            for (int handle = 0; handle < 4; handle++) {
                DUE.is("open", x.open(1), handle);
            }
            DUE.is("a fifth", x.open(1), BuddyFiles.NO_HANDLE);
            for (int handle = 0; handle < 4; handle++) {
                DUE.is("close " + handle, handle == left ? 0 : x.close(handle), 0);
            }
            DUE.is("unlink while handle " + left + " is open", x.unlink(1), BuddyFiles.BUSY);
            DUE.is("rename while handle " + left + " is open", x.rename(2, 1), BuddyFiles.BUSY);
            DUE.is("close " + left, x.close(left), 0);
            DUE.is("rename", x.rename(2, 1), 0);
            DUE.is("unlink", x.unlink(1), 0);
        }
    }

    private static void renameNames() {
        Counted x = new Counted();
        x.create(1, 2);
        x.open(1);
        x.write(0, 2, 33);
        DUE.is("rename", x.rename(1, 99), 0);
        DUE.is("old name", x.open(1), BuddyFiles.NO_FILE);
        DUE.is("new name", x.open(99), 1);
        DUE.is("old handle", x.read(0, 2), 33);
        DUE.is("new handle", x.read(1, 2), 33);
        DUE.is("same name while open", x.rename(99, 99), 0);
        DUE.is("usage", x.usage(2), 2);
        DUE.is("the same slot", x.create(1, 0), 1);
    }

    private static void renameReplaces() {
        Counted x = new Counted();
        x.create(1, 0);
        x.create(2, 1);
        x.open(1);
        x.open(2);
        x.write(0, 3, 7);
        x.write(1, 5, 8);
        x.close(0);
        DUE.is("rename", x.rename(2, 1), 0);
        DUE.is("usage of the replaced", x.usage(0), 0);
        DUE.is("usage of the other", x.usage(1), 4);
        DUE.is("old name", x.unlink(2), BuddyFiles.NO_FILE);
        DUE.is("name", x.open(1), 0);
        DUE.is("word", x.read(0, 5), 8);
        DUE.is("the free slot", x.create(3, 0), 0);
        x.sync();
        DUE.is("fsck", x.fsck(), 0);
        DUE.is("word of the replaced", x.peek(46 + 3), 0);
    }

    private static void renameRefuses() {
        Counted x = new Counted();
        x.create(1, 0);
        x.create(2, 0);
        for (int name : NO_NAMES) {
            DUE.is("rename from " + name, x.rename(name, 3), BuddyFiles.NO_FILE);
            DUE.is("no file before bad argument " + name, x.rename(name, name), BuddyFiles.NO_FILE);
            DUE.is("rename to " + name, x.rename(1, name), BuddyFiles.BAD_ARGUMENT);
        }
        DUE.is("no file", x.rename(3, 3), BuddyFiles.NO_FILE);
        x.open(2);
        DUE.is("to is open", x.rename(1, 2), BuddyFiles.BUSY);
        DUE.is("from is open", x.rename(2, 1), 0);
        DUE.is("only the one is left", x.open(2), BuddyFiles.NO_FILE);
        DUE.is("named 1", x.open(1), 1);
    }

    private static void renameRefusesInOrder() {
        Counted x = new Counted();
        x.create(1, 0);
        x.create(2, 0);
        x.open(2);
        DUE.is("no file before busy", x.rename(3, 2), BuddyFiles.NO_FILE);
        DUE.is("no file before bad argument", x.rename(3, 0), BuddyFiles.NO_FILE);
        DUE.is("bad argument, though from is open", x.rename(2, 100), BuddyFiles.BAD_ARGUMENT);
        DUE.is("the same name is not busy", x.rename(2, 2), 0);
        DUE.is("nothing changed", x.open(2), 1);
    }

    private static void renameToTheEndsOfTheNames() {
        Counted x = new Counted();
        x.create(50, 0);
        DUE.is("to 1", x.rename(50, 1), 0);
        DUE.is("to 99", x.rename(1, 99), 0);
        DUE.is("to 100", x.rename(99, 100), BuddyFiles.BAD_ARGUMENT);
        DUE.is("to 0", x.rename(99, 0), BuddyFiles.BAD_ARGUMENT);
        DUE.is("from 100", x.rename(100, 5), BuddyFiles.NO_FILE);
        DUE.is("from 0", x.rename(0, 5), BuddyFiles.NO_FILE);
        DUE.is("still 99", x.unlink(99), 0);
    }

    private static void allRefuseWhenDown() {
        Counted x = Scenes.down();
        DUE.is("create", x.create(1, 0), BuddyFiles.DOWN);
        DUE.is("create bad", x.create(0, 9), BuddyFiles.DOWN);
        DUE.is("unlink", x.unlink(1), BuddyFiles.DOWN);
        DUE.is("unlink bad", x.unlink(0), BuddyFiles.DOWN);
        DUE.is("open", x.open(1), BuddyFiles.DOWN);
        DUE.is("open bad", x.open(0), BuddyFiles.DOWN);
        DUE.is("close", x.close(0), BuddyFiles.DOWN);
        DUE.is("close bad", x.close(9), BuddyFiles.DOWN);
        DUE.is("rename", x.rename(1, 2), BuddyFiles.DOWN);
        DUE.is("rename bad", x.rename(9, 0), BuddyFiles.DOWN);
        DUE.is("mount", x.mount(), 0);
        DUE.is("nothing made", x.sync(), 0);
    }
}
