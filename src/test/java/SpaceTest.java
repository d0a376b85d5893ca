/** Promises 13 to 15, and which runs growing takes and shrinking gives back. */
public final class SpaceTest {
    private static final int[] NO_OWNERS = {-1, 3, Integer.MIN_VALUE, Integer.MAX_VALUE};
    private static final Due DUE = new Due();

    public static void main(String[] args) {
        setQuotaSets();
        setQuotaRefuses();
        quotaBoundsAllFilesOfAnOwner();
        quotaCountsWholeRuns();
        quotaAtTheEnds();
        usageCounts();
        usageRefuses();
        freeCounts();
        freeBesideEachBlock();
        freeRefuses();
        eachLengthTakesTheLeastOrder();
        eachMissingNumberTakesTheLeastOrder();
        eachOrderSplitsTheWhole();
        growthWithinTheBlocksTakesNothing();
        takesTheLeastOrderThenTheFirst();
        takesTheLastBlock();
        takesTheGreatestSmallerOrder();
        takesTheFirstOfTheGreatestSmallerOrder();
        aFifthExtentIsNoSpace();
        noBlockFreeIsNoSpace();
        growthUsesEveryExtent();
        refusedGrowthPutsAllBack();
        shrinkingKeepsTheLastRunNeeded();
        shrinkingGivesBackFromTheEnd();
        allRefuseWhenDown();
        DUE.end();
    }

    /** Files 1 .. count with handles 0 .. count - 1, of the owners 0, 1, 2, 0. */
    private static Counted withFiles(int count) {
        Counted x = new Counted();
        for (int k = 0; k < count; k++) {
            x.create(1 + k, k % 3);
            x.open(1 + k);
        }
        return x;
    }

    private static int run(int first, int order) {
        return 1 + first + 32 * order;
    }

    private static void freeIs(String when, Counted x, int... counts) {
        for (int order = 0; order <= 5; order++) {
            DUE.is(when + " free(" + order + ")", x.free(order), counts[order]);
        }
    }

    private static void setQuotaSets() {
        Counted x = new Counted();
        DUE.is("owner 0", x.setQuota(0, 0), 0);
        DUE.is("owner 1", x.setQuota(1, 31), 0);
        DUE.is("owner 2", x.setQuota(2, 32), 0);
        DUE.is("memory alone", x.peek(42), 32);
        DUE.is("sync", x.sync(), 2);
        DUE.is("quota 0", x.peek(42), 0);
        DUE.is("quota 1", x.peek(43), 31);
        DUE.is("quota 2", x.peek(44), 32);
        DUE.is("clean", x.fsck(), 0);
    }

    private static void setQuotaRefuses() {
        Counted x = withFiles(1);
        for (int owner : NO_OWNERS) {
            DUE.is("owner " + owner, x.setQuota(owner, 1), BuddyFiles.BAD_ARGUMENT);
        }
        int[] amounts = {-1, 33, Integer.MIN_VALUE, Integer.MAX_VALUE};
        for (int blocks : amounts) {
            DUE.is("blocks " + blocks, x.setQuota(1, blocks), BuddyFiles.BAD_ARGUMENT);
        }
        x.truncate(0, 10);
        DUE.is("below usage", x.setQuota(0, 7), BuddyFiles.BELOW_USAGE);
        DUE.is("bad argument first", x.setQuota(0, -1), BuddyFiles.BAD_ARGUMENT);
        DUE.is("at usage", x.setQuota(0, 8), 0);
        DUE.is("another owner's", x.setQuota(1, 0), 0);
        x.sync();
        DUE.is("quota 0", x.peek(42), 8);
        DUE.is("quota 1", x.peek(43), 0);
        DUE.is("quota 2", x.peek(44), 32);
    }

    private static void quotaBoundsAllFilesOfAnOwner() {
        Counted x = withFiles(4);
        x.setQuota(0, 3);
        DUE.is("one file", x.truncate(0, 4), 0);
        DUE.is("both files", x.truncate(3, 3), BuddyFiles.OVER_QUOTA);
        DUE.is("another owner", x.truncate(1, 8), 0);
        DUE.is("one block more", x.truncate(3, 2), 0);
        DUE.is("no more", x.write(3, 2, 1), BuddyFiles.OVER_QUOTA);
        DUE.is("nor there", x.write(0, 4, 1), BuddyFiles.OVER_QUOTA);
        x.truncate(3, 0);
        DUE.is("now there", x.write(0, 4, 1), 0);
    }

    /** 2^r blocks are used where fewer are needed. */
    private static void quotaCountsWholeRuns() {
        for (int order = 0; order <= 5; order++) {
            int blocks = 1 << order;
            for (int length = blocks; length <= 2 * blocks; length++) {
                boolean needsAll = length > blocks || order == 0;
                Counted x = withFiles(1);
                x.setQuota(0, blocks - 1);
                DUE.is("one block too few for " + length, x.truncate(0, length), needsAll ? BuddyFiles.OVER_QUOTA : 0);
                DUE.is("length", x.length(0), needsAll ? 0 : length);
                x.setQuota(0, blocks);
                DUE.is("enough for " + length, x.truncate(0, length), 0);
                DUE.is("usage", x.usage(0), needsAll ? blocks : blocks / 2);
            }
        }
    }

    private static void quotaAtTheEnds() {
        Counted x = withFiles(1);
        DUE.is("0 at usage 0", x.setQuota(0, 0), 0);
        DUE.is("nothing fits", x.write(0, 0, 1), BuddyFiles.OVER_QUOTA);
        DUE.is("staying fits", x.truncate(0, 0), 0);
        DUE.is("32", x.setQuota(0, 32), 0);
        DUE.is("all fits", x.truncate(0, 64), 0);
        DUE.is("31 at usage 32", x.setQuota(0, 31), BuddyFiles.BELOW_USAGE);
        DUE.is("0 at usage 32", x.setQuota(0, 0), BuddyFiles.BELOW_USAGE);
        DUE.is("32 at usage 32", x.setQuota(0, 32), 0);
        DUE.is("33", x.setQuota(0, 33), BuddyFiles.BAD_ARGUMENT);
        DUE.is("-1", x.setQuota(0, -1), BuddyFiles.BAD_ARGUMENT);
        DUE.is("shrunk", x.truncate(0, 0), 0);
        DUE.is("0 again", x.setQuota(0, 0), 0);
    }

    private static void usageCounts() {
        Counted x = withFiles(4);
        DUE.is("nothing", x.usage(0), 0);
        x.truncate(0, 5);
        x.truncate(3, 1);
        x.truncate(2, 16);
        DUE.is("blocks of runs, not needed ones", x.usage(0), 4 + 1);
        DUE.is("no runs", x.usage(1), 0);
        DUE.is("owner 2", x.usage(2), 8);
        x.close(0);
        x.unlink(1);
        DUE.is("after unlink", x.usage(0), 1);
    }

    private static void usageRefuses() {
        Counted x = withFiles(1);
        for (int owner : NO_OWNERS) {
            DUE.is("owner " + owner, x.usage(owner), BuddyFiles.BAD_ARGUMENT);
        }
    }

    private static void freeCounts() {
        Counted x = withFiles(4);
        freeIs("all", x, 0, 0, 0, 0, 0, 1);
        x.truncate(0, 2);
        freeIs("one used", x, 1, 1, 1, 1, 1, 0);
        x.truncate(1, 2);
        freeIs("two used", x, 0, 1, 1, 1, 1, 0);
        x.truncate(0, 0);
        freeIs("a hole", x, 1, 1, 1, 1, 1, 0);
        x.truncate(2, 32);
        freeIs("the upper half used", x, 1, 1, 1, 1, 0, 0);
        x.truncate(3, 16);
        x.truncate(0, 2);
        freeIs("most used", x, 0, 1, 1, 0, 0, 0);
        x.truncate(1, 0);
        freeIs("two runs of one order that are no pair", x, 1, 1, 1, 0, 0, 0);
        x.truncate(0, 0);
        x.truncate(2, 0);
        x.truncate(3, 0);
        freeIs("joined again", x, 0, 0, 0, 0, 0, 1);
        x.truncate(0, 63);
        freeIs("none", x, 0, 0, 0, 0, 0, 0);
    }

    /** With one block used there is one free run of each order but the greatest, wherever the block lies. */
    private static void freeBesideEachBlock() {
        for (int block = 0; block < 32; block++) {
            Counted x = Scenes.down();
            x.corrupt(0, 1);
            x.corrupt(2, 1);
            x.corrupt(3, run(block, 0));
            x.corrupt(45, 1 << block);
            DUE.is("mount", x.mount(), 0);
            freeIs("block " + block, x, 1, 1, 1, 1, 1, 0);
            x.create(2, 0);
            for (int order = 0; order <= 4; order++) {
                x.open(2);
                x.truncate(0, 2 << order);
                int beside = (block >> order ^ 1) << order;
                DUE.is("order " + order + " beside block " + block, x.extent(0, 0), run(beside, order));
                x.truncate(0, 0);
                x.close(0);
            }
        }
    }

    private static void freeRefuses() {
        Counted x = withFiles(1);
        int[] orders = {-1, 6, 31, 32, Integer.MIN_VALUE, Integer.MAX_VALUE};
        for (int order : orders) {
            DUE.is("order " + order, x.free(order), BuddyFiles.BAD_ARGUMENT);
        }
    }

    private static void eachLengthTakesTheLeastOrder() {
        for (int length = 1; length <= 64; length++) {
            Counted x = withFiles(1);
            DUE.is("truncate " + length, x.truncate(0, length), 0);
            int order = 0;
            while (2 << order < length) {
                order++;
            }
            DUE.is("extent of length " + length, x.extent(0, 0), run(0, order));
            DUE.is("usage of length " + length, x.usage(0), 1 << order);
            DUE.is("only one", x.extent(0, 1), 0);
            x.sync();
            DUE.is("fsck of length " + length, x.fsck(), 0);
        }
    }

    /** Block 0 is the file's, so that one run each of the orders 0 .. 4 is free: that of order r begins at block 2^r. */
    private static void eachMissingNumberTakesTheLeastOrder() {
        for (int missing = 1; missing <= 31; missing++) {
            Counted x = withFiles(1);
            x.truncate(0, 1);
            String what = missing + " blocks more";
            DUE.is(what, x.truncate(0, 2 + 2 * missing), missing > 28 ? BuddyFiles.NO_SPACE : 0);
            int greatest = 4;
            int rest = missing > 28 ? 0 : missing;
            for (int k = 1; k <= 3; k++) {
                int order = 0;
                while (order < greatest && 1 << order < rest) {
                    order++;
                }
                DUE.is(what + ", extent " + k, x.extent(0, k), rest > 0 ? run(1 << order, order) : 0);
                rest -= 1 << order;
                greatest = order - 1;
            }
        }
    }

    private static void eachOrderSplitsTheWhole() {
        for (int order = 0; order <= 5; order++) {
            Counted x = withFiles(1);
            x.truncate(0, 2 << order);
            for (int other = 0; other <= 5; other++) {
                boolean left = other >= order && other < 5;
                DUE.is("order " + order + " taken, free " + other, x.free(other), left ? 1 : 0);
            }
        }
    }

    private static void growthWithinTheBlocksTakesNothing() {
        Counted x = withFiles(2);
        x.truncate(0, 33);
        x.truncate(0, 1);
        x.setQuota(0, 32);
        freeIs("nothing is free", x, 0, 0, 0, 0, 0, 0);
        DUE.is("all 32 blocks are there", x.truncate(0, 64), 0);
        DUE.is("one run", x.extent(0, 0), run(0, 5));
        DUE.is("no second", x.extent(0, 1), 0);
        DUE.is("usage", x.usage(0), 32);
    }

    /** Blocks 0 and 2 .. 3 become free while 1 and 4 .. 7 are used: one run of each of the orders 0, 1, 3, 4. */
    private static void takesTheLeastOrderThenTheFirst() {
        Counted x = withFiles(4);
        x.truncate(0, 2);
        x.truncate(1, 2);
        x.truncate(2, 4);
        x.truncate(3, 8);
        DUE.is("block 0", x.extent(0, 0), run(0, 0));
        DUE.is("block 1", x.extent(1, 0), run(1, 0));
        DUE.is("blocks 2, 3", x.extent(2, 0), run(2, 1));
        DUE.is("blocks 4 .. 7", x.extent(3, 0), run(4, 2));
        x.truncate(0, 0);
        x.truncate(2, 0);
        freeIs("holes", x, 1, 1, 0, 1, 1, 0);
        x.truncate(2, 4);
        DUE.is("order 1 fits", x.extent(2, 0), run(2, 1));
        x.truncate(2, 0);
        x.truncate(2, 1);
        DUE.is("order 0 fits", x.extent(2, 0), run(0, 0));
        x.truncate(0, 1);
        DUE.is("the least greater order is split", x.extent(0, 0), run(2, 0));
        x.truncate(0, 0);
        x.truncate(0, 6);
        DUE.is("order 3 is split though order 1 comes first", x.extent(0, 0), run(8, 2));
        x.truncate(1, 0);
        x.truncate(3, 0);
        x.truncate(2, 0);
        freeIs("two of order 3 but one of them split", x, 0, 0, 1, 1, 1, 0);
        x.truncate(2, 16);
        DUE.is("the first eight", x.extent(2, 0), run(0, 3));
    }

    private static void takesTheLastBlock() {
        Counted x = withFiles(4);
        int[] firsts = {0, 16, 24, 28};
        for (int k = 0; k < 4; k++) {
            x.truncate(k, 32 >> k);
            DUE.is("order " + (4 - k), x.extent(k, 0), run(firsts[k], 4 - k));
        }
        x.close(0);
        x.close(1);
        x.create(5, 0);
        x.create(6, 0);
        x.open(5);
        x.open(6);
        freeIs("the last two", x, 0, 1, 0, 0, 0, 0);
        x.write(0, 1, 5);
        DUE.is("the last but one", x.extent(0, 0), run(30, 0));
        freeIs("the last", x, 1, 0, 0, 0, 0, 0);
        x.write(1, 1, 6);
        DUE.is("the last", x.extent(1, 0), run(31, 0));
        freeIs("none", x, 0, 0, 0, 0, 0, 0);
        DUE.is("no block", x.write(1, 2, 7), BuddyFiles.NO_SPACE);
        x.sync();
        DUE.is("the last word", x.peek(109), 6);
        DUE.is("map", x.peek(45), -1);
    }

    private static void takesTheGreatestSmallerOrder() {
        Counted x = withFiles(3);
        x.truncate(0, 1);
        DUE.is("64 words need a fifth run", x.truncate(1, 64), BuddyFiles.NO_SPACE);
        DUE.is("60 words", x.truncate(1, 60), 0);
        DUE.is("extent 0", x.extent(1, 0), run(16, 4));
        DUE.is("extent 1", x.extent(1, 1), run(8, 3));
        DUE.is("extent 2", x.extent(1, 2), run(4, 2));
        DUE.is("extent 3", x.extent(1, 3), run(2, 1));
        freeIs("one block", x, 1, 0, 0, 0, 0, 0);
        DUE.is("a fifth run", x.write(1, 60, 1), BuddyFiles.NO_SPACE);
        DUE.is("the last block", x.truncate(2, 2), 0);
        DUE.is("extent", x.extent(2, 0), run(1, 0));
        DUE.is("no block", x.truncate(2, 3), BuddyFiles.NO_SPACE);
        DUE.is("no block", x.truncate(0, 3), BuddyFiles.NO_SPACE);
        DUE.is("within the block", x.truncate(0, 2), 0);
        for (int p = 0; p < 60; p++) {
            x.write(1, p, 700 + p);
        }
        x.sync();
        for (int i = 4; i < 64; i++) {
            int p = i >= 32 ? i - 32 : i >= 16 ? 32 + i - 16 : i >= 8 ? 48 + i - 8 : 56 + i - 4;
            DUE.is("word " + i, x.peek(46 + i), 700 + p);
        }
        DUE.is("fsck", x.fsck(), 0);
    }

    /** Blocks 2 .. 3 and 6 .. 7 are free; all others are used. */
    private static void takesTheFirstOfTheGreatestSmallerOrder() {
        Counted x = withFiles(4);
        x.truncate(0, 4);
        x.truncate(1, 4);
        x.truncate(2, 4);
        x.truncate(3, 4);
        x.truncate(0, 52);
        x.truncate(1, 0);
        x.truncate(3, 0);
        freeIs("two runs", x, 0, 2, 0, 0, 0, 0);
        DUE.is("four blocks", x.truncate(1, 8), 0);
        DUE.is("the first", x.extent(1, 0), run(2, 1));
        DUE.is("then the second", x.extent(1, 1), run(6, 1));
        DUE.is("no more", x.extent(1, 2), 0);
    }

    /** The file has fewer than four runs, so that a further extent is not what is missing. */
    private static void noBlockFreeIsNoSpace() {
        for (int runs = 0; runs <= 3; runs++) {
            Counted x = withFiles(3);
            for (int k = 1; k <= runs; k++) {
                x.truncate(0, 2 * k);
                x.truncate(1, 2 * k);
            }
            DUE.is("all other blocks", x.truncate(2, 64 - 4 * runs), 0);
            freeIs("full with " + runs, x, 0, 0, 0, 0, 0, 0);
            DUE.is("a block more", x.write(0, 2 * runs, 1), BuddyFiles.NO_SPACE);
            DUE.is("length", x.length(0), 2 * runs);
            DUE.is("usage", x.usage(0), runs);
        }
    }

    private static void growthUsesEveryExtent() {
        Counted x = withFiles(2);
        x.truncate(1, 2);
        DUE.is("30 blocks in four runs", x.truncate(0, 60), 0);
        DUE.is("the fourth", x.extent(0, 3), run(2, 1));
        DUE.is("usage", x.usage(0), 30);
        DUE.is("the block that is left", x.free(0), 1);
        DUE.is("is not for a fifth", x.truncate(0, 61), BuddyFiles.NO_SPACE);
        DUE.is("length", x.length(0), 60);
    }

    private static void aFifthExtentIsNoSpace() {
        Counted x = withFiles(2);
        for (int k = 0; k < 4; k++) {
            x.truncate(0, 2 * k + 2);
            x.truncate(1, 2 * k + 2);
        }
        DUE.is("four runs", x.extent(0, 3), run(6, 0));
        DUE.is("a fifth", x.truncate(0, 9), BuddyFiles.NO_SPACE);
        DUE.is("a fifth at the quota", x.setQuota(0, 4), 0);
        DUE.is("no space before over quota", x.truncate(0, 9), BuddyFiles.NO_SPACE);
        DUE.is("though there is space", x.free(3), 1);
        DUE.is("length", x.length(0), 8);
        DUE.is("usage", x.usage(0), 4);
    }

    private static void refusedGrowthPutsAllBack() {
        Counted x = withFiles(3);
        x.truncate(0, 1);
        x.truncate(1, 2);
        x.write(0, 0, 77);
        x.sync();
        int[] lengths = {64, 63, 61, 60, 59, 20, 5};
        x.setQuota(0, 2);
        x.sync();
        for (int length : lengths) {
            int want = length > 58 ? BuddyFiles.NO_SPACE : BuddyFiles.OVER_QUOTA;
            DUE.is("truncate " + length, x.truncate(0, length), want);
            DUE.is("write " + length, x.write(0, length - 1, 5), want);
            DUE.is("length", x.length(0), 1);
            DUE.is("extent 0", x.extent(0, 0), run(0, 0));
            DUE.is("extent 1", x.extent(0, 1), 0);
            freeIs("after " + length, x, 0, 1, 1, 1, 1, 0);
            DUE.is("nothing changed", x.sync(), 0);
        }
    }

    private static void shrinkingKeepsTheLastRunNeeded() {
        Counted x = withFiles(1);
        x.truncate(0, 64);
        x.truncate(0, 1);
        DUE.is("the one run", x.extent(0, 0), run(0, 5));
        DUE.is("usage", x.usage(0), 32);
        x.truncate(0, 0);
        DUE.is("none", x.extent(0, 0), 0);
        freeIs("all", x, 0, 0, 0, 0, 0, 1);
    }

    /** The file's runs have 1, 16, 8 and 4 blocks. */
    private static void shrinkingGivesBackFromTheEnd() {
        int[] lengths = {58, 51, 50, 35, 34, 3, 2, 1, 0};
        int[] runs = {4, 4, 3, 3, 2, 2, 1, 1, 0};
        int[] cells = {run(0, 0), run(16, 4), run(8, 3), run(4, 2)};
        int[] blocks = {0, 1, 17, 25, 29};
        for (int i = 0; i < lengths.length; i++) {
            Counted x = withFiles(1);
            x.truncate(0, 1);
            DUE.is("grow", x.truncate(0, 58), 0);
            DUE.is("shrink", x.truncate(0, lengths[i]), 0);
            for (int k = 0; k < 4; k++) {
                DUE.is("length " + lengths[i] + " extent " + k, x.extent(0, k), k < runs[i] ? cells[k] : 0);
            }
            DUE.is("length " + lengths[i] + " usage", x.usage(0), blocks[runs[i]]);
            x.sync();
            DUE.is("length " + lengths[i] + " fsck", x.fsck(), 0);
        }
    }

    private static void allRefuseWhenDown() {
        Counted x = withFiles(1);
        x.crashAfter(0);
        x.sync();
        DUE.is("setQuota", x.setQuota(0, 1), BuddyFiles.DOWN);
        DUE.is("setQuota bad", x.setQuota(9, 99), BuddyFiles.DOWN);
        DUE.is("usage", x.usage(0), BuddyFiles.DOWN);
        DUE.is("usage bad", x.usage(-1), BuddyFiles.DOWN);
        DUE.is("free", x.free(5), BuddyFiles.DOWN);
        DUE.is("free bad", x.free(6), BuddyFiles.DOWN);
        DUE.is("mount", x.mount(), 0);
        DUE.is("quota as it was", x.peek(42), 32);
    }
}
