/** What the head "Terms" says of all calls, and the 512 calls of "What it is". */
public final class TermsTest {
    private static final int LEAST = Integer.MIN_VALUE;
    private static final int GREATEST = Integer.MAX_VALUE;
    private static final int[] NO_HANDLES = {-1, 4, LEAST, GREATEST};
    private static final Due DUE = new Due();

    public static void main(String[] args) {
        everyCellTakesEveryInt();
        theDiskChangesInFourCallsAlone();
        memoryIsAlwaysClean();
        refusedCallsChangeNothing();
        refusedCallsLeaveTheFuse();
        refusedCallsChangeNothingWhenDown();
        downIsNamedBeforeAnyOtherCode();
        objectsShareNothing();
        wordsUpToThe512thCall();
        filesUpToThe512thCall();
        handlesUpToThe512thCall();
        syncsUpToThe512thCall();
        mountsUpToThe512thCall();
        corruptionsUpToThe512thCall();
        formatsUpToThe512thCall();
        refusalsUpToThe512thCall();
        DUE.end();
    }

    /** A hundred cells an object, for the sake of its 512 calls. */
    private static void everyCellTakesEveryInt() {
        for (int begin = 0; begin < Scenes.CELLS; begin += 100) {
            Counted x = Scenes.down();
            for (int cell = begin; cell < Math.min(begin + 100, Scenes.CELLS); cell++) {
                DUE.is("corrupt " + cell, x.corrupt(cell, LEAST + cell), true);
                DUE.is("peek " + cell, x.peek(cell), LEAST + cell);
                DUE.is("corrupt " + cell, x.corrupt(cell, GREATEST - cell), true);
                DUE.is("peek " + cell, x.peek(cell), GREATEST - cell);
            }
        }
    }

    /**
     * All slots and all handles are in use; file 1 has one word in block 0 and file 2 one in block 1; the quota of
     * owner 0 is its usage. So there is a call for each code that an object that is up can answer.
     */
    private static Counted crowded() {
        Counted x = new Counted();
        for (int name = 1; name <= 6; name++) {
            x.create(name, (name - 1) % 3);
        }
        for (int name = 1; name <= 4; name++) {
            x.open(name);
        }
        x.write(0, 0, 11);
        x.write(1, 0, 22);
        x.setQuota(0, 1);
        x.sync();
        x.write(0, 0, 12);
        x.write(1, 1, 23);
        return x;
    }

    /** Calls that an object as crowded() made it refuses; when it is down it refuses them all as DOWN. */
    private static void refuse(Counted x, boolean up) {
        refuseFiles(x, up);
        refuseWords(x, up);
        refuseRanges(x, up);
        DUE.is("corrupt -1", x.corrupt(-1, 7), false);
        DUE.is("corrupt 332", x.corrupt(332, 7), false);
        DUE.is("crashAfter -2", x.crashAfter(-2), false);
        if (up) {
            DUE.is("corrupt 0", x.corrupt(0, 7), false);
            DUE.is("corrupt 331", x.corrupt(331, 7), false);
            DUE.is("mount", x.mount(), BuddyFiles.BUSY);
        } else {
            DUE.is("crashAfter -1", x.crashAfter(-1), false);
            DUE.is("crashAfter 0", x.crashAfter(0), false);
            DUE.is("crashAfter 9", x.crashAfter(9), false);
            DUE.is("sync", x.sync(), BuddyFiles.DOWN);
        }
    }

    private static int code(boolean up, int code) {
        return up ? code : BuddyFiles.DOWN;
    }

    private static void refuseFiles(Counted x, boolean up) {
        DUE.is("create 0", x.create(0, 0), code(up, BuddyFiles.BAD_ARGUMENT));
        DUE.is("create 100", x.create(100, 0), code(up, BuddyFiles.BAD_ARGUMENT));
        DUE.is("create of owner 3", x.create(7, 3), code(up, BuddyFiles.BAD_ARGUMENT));
        DUE.is("create 6", x.create(6, 0), code(up, BuddyFiles.EXISTS));
        DUE.is("create 7", x.create(7, 0), code(up, BuddyFiles.NO_SLOT));
        DUE.is("unlink 7", x.unlink(7), code(up, BuddyFiles.NO_FILE));
        DUE.is("unlink 4", x.unlink(4), code(up, BuddyFiles.BUSY));
        DUE.is("open 7", x.open(7), code(up, BuddyFiles.NO_FILE));
        DUE.is("open 6", x.open(6), code(up, BuddyFiles.NO_HANDLE));
        DUE.is("rename 7", x.rename(7, 5), code(up, BuddyFiles.NO_FILE));
        DUE.is("rename to 0", x.rename(1, 0), code(up, BuddyFiles.BAD_ARGUMENT));
        DUE.is("rename to 100", x.rename(1, 100), code(up, BuddyFiles.BAD_ARGUMENT));
        DUE.is("rename to an open one", x.rename(5, 4), code(up, BuddyFiles.BUSY));
    }

    private static void refuseWords(Counted x, boolean up) {
        for (int handle : NO_HANDLES) {
            DUE.is("close " + handle, x.close(handle), code(up, BuddyFiles.BAD_HANDLE));
            DUE.is("write " + handle, x.write(handle, 0, 5), code(up, BuddyFiles.BAD_HANDLE));
            DUE.is("truncate " + handle, x.truncate(handle, 0), code(up, BuddyFiles.BAD_HANDLE));
            DUE.is("length " + handle, x.length(handle), code(up, BuddyFiles.BAD_HANDLE));
            DUE.is("extent " + handle, x.extent(handle, 0), code(up, BuddyFiles.BAD_HANDLE));
            DUE.is("read " + handle, x.read(handle, 0), 0);
        }
        DUE.is("write -1", x.write(0, -1, 5), code(up, BuddyFiles.BAD_POSITION));
        DUE.is("write 64", x.write(0, 64, 5), code(up, BuddyFiles.BAD_POSITION));
        DUE.is("write 63", x.write(0, 63, 5), code(up, BuddyFiles.NO_SPACE));
        DUE.is("write 2", x.write(0, 2, 5), code(up, BuddyFiles.OVER_QUOTA));
        DUE.is("truncate -1", x.truncate(0, -1), code(up, BuddyFiles.BAD_POSITION));
        DUE.is("truncate 65", x.truncate(0, 65), code(up, BuddyFiles.BAD_POSITION));
        DUE.is("truncate 64", x.truncate(0, 64), code(up, BuddyFiles.NO_SPACE));
        DUE.is("truncate 3", x.truncate(0, 3), code(up, BuddyFiles.OVER_QUOTA));
    }

    private static void refuseRanges(Counted x, boolean up) {
        DUE.is("extent -1", x.extent(0, -1), code(up, BuddyFiles.BAD_ARGUMENT));
        DUE.is("extent 4", x.extent(0, 4), code(up, BuddyFiles.BAD_ARGUMENT));
        DUE.is("setQuota of -1", x.setQuota(-1, 1), code(up, BuddyFiles.BAD_ARGUMENT));
        DUE.is("setQuota of 3", x.setQuota(3, 1), code(up, BuddyFiles.BAD_ARGUMENT));
        DUE.is("setQuota to -1", x.setQuota(0, -1), code(up, BuddyFiles.BAD_ARGUMENT));
        DUE.is("setQuota to 33", x.setQuota(0, 33), code(up, BuddyFiles.BAD_ARGUMENT));
        DUE.is("setQuota to 0", x.setQuota(0, 0), code(up, BuddyFiles.BELOW_USAGE));
        DUE.is("usage -1", x.usage(-1), code(up, BuddyFiles.BAD_ARGUMENT));
        DUE.is("usage 3", x.usage(3), code(up, BuddyFiles.BAD_ARGUMENT));
        DUE.is("free -1", x.free(-1), code(up, BuddyFiles.BAD_ARGUMENT));
        DUE.is("free 6", x.free(6), code(up, BuddyFiles.BAD_ARGUMENT));
    }

    /** Everything but sync, mount, format and corrupt, on an object as crowded() made it. */
    private static void callInMemory(Counted x) {
        DUE.is("write", x.write(1, 40, 5), 0);
        DUE.is("shrink", x.truncate(1, 9), 0);
        DUE.is("grow", x.truncate(2, 12), 0);
        DUE.is("read", x.read(1, 1), 23);
        DUE.is("length", x.length(1), 9);
        DUE.is("extent", x.extent(2, 0) > 0, true);
        DUE.is("close", x.close(3), 0);
        DUE.is("unlink", x.unlink(4), 0);
        DUE.is("create", x.create(44, 2), 3);
        DUE.is("open", x.open(44), 3);
        DUE.is("rename over", x.rename(5, 6), 0);
        DUE.is("rename", x.rename(6, 99), 0);
        DUE.is("setQuota", x.setQuota(2, 30), 0);
        DUE.is("usage", x.usage(2) > 0, true);
        DUE.is("free", x.free(0) >= 0, true);
        DUE.is("crashAfter", x.crashAfter(500), true);
        DUE.is("fsck", x.fsck(), 0);
        DUE.is("peek", x.peek(0), 1);
    }

    private static void theDiskChangesInFourCallsAlone() {
        int[] before = Scenes.diskOf(crowded());
        Counted x = crowded();
        callInMemory(x);
        Scenes.isDisk(DUE, "calls in memory", x, before);
        x.sync();
        DUE.is("sync", x.peek(28), 99);
        x.format();
        DUE.is("format", x.peek(28), 0);
        x = Scenes.down();
        x.corrupt(43, 8);
        DUE.is("corrupt", x.peek(43), 8);
        Scenes.putJournal(x, 43, 9);
        DUE.is("fsck", x.fsck(), 0);
        DUE.is("not fsck", x.peek(43), 8);
        x.mount();
        DUE.is("mount", x.peek(43), 9);
    }

    private static void memoryIsAlwaysClean() {
        Counted x = crowded();
        x.sync();
        DUE.is("crowded", x.fsck(), 0);
        refuse(x, true);
        DUE.is("nothing was changed", x.sync(), 0);
        callInMemory(x);
        x.sync();
        DUE.is("after calls of every kind", x.fsck(), 0);
        for (int length = 64; length >= 0; length--) {
            x.truncate(1, length);
            x.write(2, length, length + 1);
            x.sync();
            DUE.is("fsck at length " + length, x.fsck(), 0);
        }
    }

    /** All that can be asked of memory; the answers of two objects in the same state are the same. */
    private static void isAlike(String when, Counted x, Counted twin) {
        for (int handle = 0; handle < 4; handle++) {
            DUE.is(when + " length " + handle, x.length(handle), twin.length(handle));
            for (int k = 0; k < 4; k++) {
                DUE.is(when + " extent " + handle + ", " + k, x.extent(handle, k), twin.extent(handle, k));
            }
            DUE.is(when + " first word " + handle, x.read(handle, 0), twin.read(handle, 0));
            DUE.is(when + " second word " + handle, x.read(handle, 1), twin.read(handle, 1));
        }
        for (int order = 0; order <= 5; order++) {
            DUE.is(when + " free " + order, x.free(order), twin.free(order));
        }
        for (int owner = 0; owner < 3; owner++) {
            DUE.is(when + " usage " + owner, x.usage(owner), twin.usage(owner));
        }
        DUE.is(when + " fsck", x.fsck(), twin.fsck());
    }

    private static void refusedCallsChangeNothing() {
        Counted x = crowded();
        Counted twin = crowded();
        refuse(x, true);
        isAlike("refused", x, twin);
        DUE.is("the same changes", x.sync(), twin.sync());
        Scenes.isDisk(DUE, "refused, synced", x, Scenes.diskOf(twin));
    }

    /** The three changes take twelve cells. */
    private static void refusedCallsLeaveTheFuse() {
        for (int fuse = 11; fuse <= 12; fuse++) {
            Counted x = crowded();
            x.crashAfter(fuse);
            refuse(x, true);
            DUE.is("sync with the fuse at " + fuse, x.sync(), fuse == 12 ? 3 : BuddyFiles.DOWN);
            DUE.is("the number with the fuse at " + fuse, x.peek(110), fuse == 12 ? 0 : 3);
        }
    }

    /** A journal that holds stands on the disk. */
    private static Counted crowdedAndDown() {
        Counted x = crowded();
        x.crashAfter(9);
        x.sync();
        return x;
    }

    private static void refusedCallsChangeNothingWhenDown() {
        Counted x = crowdedAndDown();
        refuse(x, false);
        Scenes.isDisk(DUE, "refused when down", x, Scenes.diskOf(crowdedAndDown()));
        x = crowdedAndDown();
        Counted twin = crowdedAndDown();
        refuse(x, false);
        DUE.is("fsck", x.fsck(), twin.fsck());
        DUE.is("mount", x.mount(), 0);
        DUE.is("mount of the twin", twin.mount(), 0);
        for (int name = 1; name <= 4; name++) {
            DUE.is("open " + name, x.open(name), name - 1);
            twin.open(name);
        }
        isAlike("refused when down", x, twin);
        x.setQuota(2, 5);
        DUE.is("no fuse was set", x.sync(), 1);
    }

    /** Each call would be refused with another code, or not at all, if memory were still there. */
    private static void downIsNamedBeforeAnyOtherCode() {
        Counted x = crowdedAndDown();
        refuse(x, false);
        DUE.is("create", x.create(9, 0), BuddyFiles.DOWN);
        DUE.is("unlink", x.unlink(6), BuddyFiles.DOWN);
        DUE.is("open", x.open(1), BuddyFiles.DOWN);
        DUE.is("rename", x.rename(6, 7), BuddyFiles.DOWN);
        DUE.is("rename to the same", x.rename(1, 1), BuddyFiles.DOWN);
        for (int handle = 0; handle < 4; handle++) {
            DUE.is("write", x.write(handle, 0, 1), BuddyFiles.DOWN);
            DUE.is("read", x.read(handle, 0), 0);
            DUE.is("truncate", x.truncate(handle, 0), BuddyFiles.DOWN);
            DUE.is("length", x.length(handle), BuddyFiles.DOWN);
            DUE.is("extent", x.extent(handle, 0), BuddyFiles.DOWN);
            DUE.is("close", x.close(handle), BuddyFiles.DOWN);
        }
        DUE.is("setQuota", x.setQuota(0, 32), BuddyFiles.DOWN);
        DUE.is("usage", x.usage(0), BuddyFiles.DOWN);
        DUE.is("free", x.free(0), BuddyFiles.DOWN);
    }

    private static void objectsShareNothing() {
        Counted x = crowded();
        Counted other = new Counted();
        DUE.is("no file", other.open(1), BuddyFiles.NO_FILE);
        DUE.is("no change", other.sync(), 0);
        DUE.is("its own disk", other.peek(0), 0);
        other.crashAfter(0);
        DUE.is("a fuse of its own", x.sync(), 3);
        other.create(1, 0);
        DUE.is("down alone", other.sync(), BuddyFiles.DOWN);
        DUE.is("still up", x.read(0, 0), 12);
    }

    private static void isSpent(String kind, Counted x) {
        DUE.is(kind + ": calls left", x.callsLeft(), 0);
    }

    private static void wordsUpToThe512thCall() {
        Counted x = new Counted();
        x.create(1, 0);
        x.open(1);
        for (int i = 0; x.callsLeft() > 2; i++) {
            DUE.is("word " + i, x.write(0, 63 - i % 64, i), 0);
        }
        DUE.is("the 511th", x.write(0, 63, 511), 0);
        DUE.is("the 512th", x.read(0, 63), 511);
        isSpent("words", x);
    }

    private static void filesUpToThe512thCall() {
        Counted x = new Counted();
        for (int i = 0; x.callsLeft() > 0; i++) {
            DUE.is("create " + i, x.create(1 + i % 99, i % 3), 0);
            DUE.is("rename " + i, x.rename(1 + i % 99, 99 - i % 99), 0);
            DUE.is("usage " + i, x.usage(i % 3), 0);
            DUE.is("unlink " + i, x.unlink(99 - i % 99), 0);
        }
        isSpent("files", x);
    }

    private static void handlesUpToThe512thCall() {
        Counted x = new Counted();
        x.create(1, 0);
        x.open(1);
        for (int i = 0; x.callsLeft() > 0; i++) {
            DUE.is("truncate " + i, x.truncate(0, 64 - i % 64), 0);
            DUE.is("open " + i, x.open(1), 1);
            DUE.is("length " + i, x.length(1), 64 - i % 64);
            DUE.is("close " + i, x.close(1), 0);
            DUE.is("free " + i, x.free(5), 0);
        }
        isSpent("handles", x);
    }

    private static void syncsUpToThe512thCall() {
        Counted x = new Counted();
        for (int i = 0; x.callsLeft() > 0; i++) {
            DUE.is("setQuota " + i, x.setQuota(i % 3, i % 32), 0);
            DUE.is("sync " + i, x.sync(), 1);
        }
        isSpent("syncs", x);
    }

    private static void mountsUpToThe512thCall() {
        Counted x = new Counted();
        for (int i = 0; x.callsLeft() > 0; i++) {
            DUE.is("setQuota " + i, x.setQuota(1, i % 32), 0);
            DUE.is("crashAfter " + i, x.crashAfter(i % 6), true);
            DUE.is("sync " + i, x.sync(), BuddyFiles.DOWN);
            DUE.is("mount " + i, x.mount(), 0);
        }
        isSpent("mounts", x);
    }

    private static void corruptionsUpToThe512thCall() {
        Counted x = Scenes.down();
        for (int i = 0; x.callsLeft() > 1; i++) {
            DUE.is("corrupt " + i, x.corrupt(42, 33), true);
            DUE.is("mount " + i, x.mount(), BuddyFiles.UNCLEAN);
            DUE.is("mend " + i, x.corrupt(42, i % 33), true);
            DUE.is("clean " + i, x.fsck(), 0);
        }
        DUE.is("the 512th", x.mount(), 0);
        isSpent("corruptions", x);
    }

    private static void formatsUpToThe512thCall() {
        Counted x = new Counted();
        for (int i = 0; x.callsLeft() > 0; i++) {
            DUE.is("create " + i, x.create(5, 1), 0);
            DUE.is("sync " + i, x.sync(), 2);
            DUE.is("peek " + i, x.peek(0), 5);
            x.format();
        }
        isSpent("formats", x);
    }

    private static void refusalsUpToThe512thCall() {
        Counted x = new Counted();
        while (x.callsLeft() > 4) {
            DUE.is("create", x.create(0, 0), BuddyFiles.BAD_ARGUMENT);
            DUE.is("unlink", x.unlink(1), BuddyFiles.NO_FILE);
            DUE.is("write", x.write(0, 0, 1), BuddyFiles.BAD_HANDLE);
            DUE.is("mount", x.mount(), BuddyFiles.BUSY);
        }
        DUE.is("create", x.create(1, 0), 0);
        DUE.is("open", x.open(1), 0);
        DUE.is("write", x.write(0, 0, 1), 0);
        DUE.is("sync", x.sync(), 5);
        isSpent("refusals", x);
    }
}
