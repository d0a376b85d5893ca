/** Promises 19 to 21: corrupt, fsck, peek; each clause of a clean home, and when the journal holds. */
public final class CheckerTest {
    private static final int[] NO_CELLS = {-1, 332, 333, Integer.MIN_VALUE, Integer.MAX_VALUE};
    /** For each clause two ways to break it in the sample, the one in an early and the other in a late cell. */
    private static final int[][][] BREAKERS = {
        {{1, 3}, {37, 65}},
        {{7, 10}, {35, 20}},
        {{6, 9}, {21, 88, 27, 31}},
        {{9, 2, 10, 1}, {28, 66, 30, 2, 31, 8}},
        {{2, 7}, {16, 9}},
        {{45, 0xfc}, {45, 0xfd | 1 << 31}},
        {{42, 33}, {44, -1}},
        {{48, 1}, {109, 1}}};
    private static final Due DUE = new Due();

    public static void main(String[] args) {
        corruptPuts();
        corruptRefuses();
        peekShowsTheDisk();
        fsckLeavesTheDisk();
        fsckWhileUp();
        clause1();
        clause2();
        clause3();
        clauses3To5InEverySlotAndExtent();
        everyExtentCell();
        clause4();
        clause5();
        everyLengthOfSomeRuns();
        clause6();
        clause7();
        quotaOfAllBlocks();
        clause8();
        theLeastClauseAnswers();
        theLeastOfEveryTwoClausesAnswers();
        journalNumbers();
        journalOfEveryNumber();
        journalNumbersOutside();
        journalOfAllCells();
        journalAddresses();
        journalOfOneAddress();
        journalOfTwoAddresses();
        journalCheck();
        journalMakesClean();
        DUE.end();
    }

    /**
     * Slot 0: name 10, owner 1, 5 words in block 0 and blocks 2 .. 3. Slot 1: name 20, owner 2, no words.
     * Slot 2: name 30, owner 1, 8 words in blocks 4 .. 7.
     */
    private static Counted sample() {
        Counted x = new Counted();
        x.create(10, 1);
        x.create(20, 2);
        x.create(30, 1);
        x.open(10);
        x.open(30);
        x.truncate(0, 2);
        x.truncate(0, 5);
        x.truncate(1, 8);
        for (int p = 0; p < 5; p++) {
            x.write(0, p, 100 + p);
        }
        for (int p = 0; p < 8; p++) {
            x.write(1, p, 200 + p);
        }
        x.sync();
        x.setQuota(0, 1);
        x.crashAfter(0);
        x.sync();
        DUE.is("the sample", x.fsck(), 0);
        return x;
    }

    /** The sample's code after these cells were put in, and 0 again after they were put back; cells and words by turns. */
    private static void judged(String what, int code, int... cells) {
        Counted x = sample();
        int[] before = new int[cells.length];
        for (int i = 0; i < cells.length; i += 2) {
            before[i] = x.peek(cells[i]);
            DUE.is(what + " corrupt", x.corrupt(cells[i], cells[i + 1]), true);
        }
        DUE.is(what, x.fsck(), code);
        for (int i = cells.length - 2; i >= 0; i -= 2) {
            x.corrupt(cells[i], before[i]);
        }
        DUE.is(what + " put back", x.fsck(), 0);
    }

    private static void corruptPuts() {
        Counted x = Scenes.down();
        int[] cells = {0, 1, 45, 109, 110, 111, 112, 331};
        for (int cell : cells) {
            DUE.is("corrupt " + cell, x.corrupt(cell, -5 - cell), true);
            DUE.is("peek " + cell, x.peek(cell), -5 - cell);
        }
        DUE.is("its neighbour", x.peek(330), 0);
        DUE.is("the same", x.corrupt(0, -5), true);
    }

    private static void corruptRefuses() {
        Counted x = new Counted();
        DUE.is("up", x.corrupt(0, 1), false);
        DUE.is("as it was", x.peek(0), 0);
        for (int cell : NO_CELLS) {
            DUE.is("up, cell " + cell, x.corrupt(cell, 1), false);
        }
        x = Scenes.down();
        for (int cell : NO_CELLS) {
            DUE.is("cell " + cell, x.corrupt(cell, 1), false);
        }
        DUE.is("mount", x.mount(), 0);
        DUE.is("up again", x.corrupt(331, 1), false);
        DUE.is("as it was", x.peek(331), 0);
    }

    private static void peekShowsTheDisk() {
        Counted x = new Counted();
        for (int cell : NO_CELLS) {
            DUE.is("cell " + cell, x.peek(cell), 0);
        }
        x.create(8, 2);
        DUE.is("not memory", x.peek(0), 0);
        x.sync();
        DUE.is("the disk", x.peek(0), 8);
        DUE.is("the disk", x.peek(1), 2);
        DUE.is("the journal", x.peek(112), 0);
        DUE.is("the journal", x.peek(113), 8);
        DUE.is("the journal", x.peek(114), 1);
        x.create(9, 0);
        x.crashAfter(0);
        x.sync();
        DUE.is("down", x.peek(0), 8);
        x.corrupt(331, 6);
        DUE.is("the last", x.peek(331), 6);
    }

    private static void fsckLeavesTheDisk() {
        Counted x = Scenes.down();
        Scenes.putJournal(x, 43, 5, 44, 6);
        x.corrupt(0, -3);
        DUE.is("fsck", x.fsck(), 1);
        DUE.is("fsck again", x.fsck(), 1);
        DUE.is("number", x.peek(110), 2);
        DUE.is("home", x.peek(43), 32);
        DUE.is("still down", x.usage(0), BuddyFiles.DOWN);
        x.corrupt(0, 0);
        DUE.is("clean", x.fsck(), 0);
        DUE.is("still down", x.usage(0), BuddyFiles.DOWN);
        DUE.is("home", x.peek(43), 32);
    }

    private static void fsckWhileUp() {
        Counted x = new Counted();
        x.create(1, 0);
        x.open(1);
        x.write(0, 3, 5);
        DUE.is("up", x.fsck(), 0);
        DUE.is("memory stays", x.read(0, 3), 5);
        DUE.is("handle stays", x.length(0), 4);
        DUE.is("changes stay", x.sync(), 5);
        DUE.is("up", x.fsck(), 0);
        DUE.is("usage", x.usage(0), 2);
    }

    private static void clause1() {
        int[] far = {Integer.MIN_VALUE, Integer.MAX_VALUE, -1};
        for (int slot = 0; slot < 6; slot++) {
            for (int word : far) {
                judged("name " + word, 1, 7 * slot, word);
                judged("owner " + word, 1, 7 * slot + 1, word);
                judged("length " + word, 1, 7 * slot + 2, word);
            }
            judged("name 100", 1, 7 * slot, 100);
            judged("owner 3", 1, 7 * slot + 1, 3);
            judged("length 65", 1, 7 * slot + 2, 65);
        }
        judged("name 99", 0, 0, 99);
        judged("name 1", 0, 0, 1);
        judged("owner 0", 0, 8, 0);
        judged("an empty name of a file", 1, 0, 0);
        judged("an empty name of a file of length 0", 1, 7, 0);
        judged("an empty name, all 0", 0, 7, 0, 8, 0);
        for (int cell = 21; cell < 42; cell++) {
            if (cell % 7 != 0) {
                judged("no name but cell " + cell, 1, cell, 1);
                judged("no name but a negative cell " + cell, 1, cell, Integer.MIN_VALUE);
            }
        }
        judged("length 64, but no blocks", 5, 9, 64);
    }

    private static void clause2() {
        judged("slots 0 and 1", 2, 7, 10);
        judged("slots 0 and 2", 2, 14, 10);
        judged("slots 1 and 2", 2, 7, 30);
        judged("slots 1 and 5", 2, 35, 20);
        judged("slots 4 and 5", 2, 28, 7, 35, 7);
        judged("other names", 0, 28, 7, 35, 8);
    }

    private static void clause3() {
        int[] noRuns = {-1, 162, 192, 193, 34, 36, 64, 66, 68, 98, 101, 130, 137, 160,
            Integer.MIN_VALUE, Integer.MIN_VALUE + 1, Integer.MAX_VALUE};
        for (int word : noRuns) {
            judged("extent " + word, 3, 17, word);
            judged("behind, extent " + word, 3, 18, word);
            judged("after no run, extent " + word, 3, 13, word);
        }
        judged("a run behind a 0", 3, 19, 9);
        judged("two 0s", 3, 20, 9);
        judged("behind no run at all", 3, 11, 9);
        judged("the first is 0", 3, 3, 0);
    }

    /** In each slot a file of four blocks, one a run, and each other slot with a file of one block. */
    private static void clauses3To5InEverySlotAndExtent() {
        for (int slot = 0; slot < 6; slot++) {
            Counted x = Scenes.down();
            for (int other = 0; other < 6; other++) {
                put(x, new int[] {7 * other, 1 + other, 7 * other + 2, 1, 7 * other + 3, 1 + other});
            }
            put(x, new int[] {7 * slot + 2, 7, 7 * slot + 4, 11, 7 * slot + 5, 12, 7 * slot + 6, 13, 45, 0x1c3f});
            DUE.is("slot " + slot, x.fsck(), 0);
            for (int k = 0; k < 4; k++) {
                int cell = 7 * slot + 3 + k;
                int run = x.peek(cell);
                breakAndMend(x, cell, 3, -1, 162, 34);
                breakAndMend(x, cell, k < 3 ? 3 : 5, 0);
                for (int other = 0; other < 6; other++) {
                    breakAndMend(x, cell, other == slot && k == 0 ? 0 : 4, 1 + other);
                }
                for (int own = 1; own < 4; own++) {
                    breakAndMend(x, cell, own == k ? 0 : 4, 10 + own);
                }
                breakAndMend(x, cell, 6, 32);
                DUE.is("as it was", x.peek(cell), run);
            }
            breakAndMend(x, 7 * slot + 2, 5, 0, 1, 2, 3, 4, 5, 6, 9, 10, 64);
            breakAndMend(x, 7 * slot + 2, 0, 7, 8);
        }
    }

    private static void breakAndMend(Counted x, int cell, int code, int... words) {
        int before = x.peek(cell);
        for (int word : words) {
            x.corrupt(cell, word);
            DUE.is("cell " + cell + " as " + word, x.fsck(), code);
        }
        x.corrupt(cell, before);
    }

    /** One file in the one run of its first extent: clean for runs alone. */
    private static void everyExtentCell() {
        for (int e = -40; e < 300; e++) {
            int first = (e - 1) & 31;
            int order = (e - 1) >> 5;
            Counted x = Scenes.down();
            x.corrupt(0, 1);
            x.corrupt(3, e);
            if (e >= 1 && order <= 5 && first % (1 << order) == 0) {
                int map = 0;
                for (int b = first; b < first + (1 << order); b++) {
                    map |= 1 << b;
                }
                x.corrupt(45, map);
                x.corrupt(2, 2 << order);
                DUE.is("extent " + e, x.fsck(), 0);
                x.corrupt(2, 1);
                DUE.is("extent " + e + " for one word", x.fsck(), 0);
            } else {
                DUE.is("extent " + e, x.fsck(), e == 0 ? 0 : 3);
            }
        }
    }

    private static void clause4() {
        judged("the same run twice in a slot", 4, 18, 1 + 4 + 64);
        judged("the same run in two slots", 4, 10, 1 + 4 + 64);
        judged("a part of a run", 4, 10, 1 + 7);
        judged("a greater run", 4, 10, 1 + 0 + 96);
        judged("all blocks", 4, 10, 161);
        judged("a part of its own", 4, 5, 1 + 3);
        judged("apart", 5, 10, 1 + 8);
        judged("apart, at the end", 5, 10, 1 + 31);
        judged("one inside the last run", 4, 10, 1 + 31, 18, 1 + 16 + 128);
    }

    private static void clause5() {
        judged("more words than blocks", 5, 2, 7);
        judged("as many as fit", 0, 2, 6);
        judged("the last run is not needed", 5, 2, 2);
        judged("the last run is needed for one", 8, 2, 3);
        judged("a file of length 0 with a run", 5, 10, 1 + 8);
        judged("a file of length 1 without a run", 5, 9, 1);
        judged("a run more", 5, 5, 1 + 1);
        judged("a run less", 5, 4, 0);
        judged("half a block is a block", 5, 16, 9);
        judged("length 0 with its run", 5, 16, 0);
    }

    /** One file of every length in runs of these orders, apart from one another. */
    private static void everyLengthOfSomeRuns() {
        int[][] orders = {{}, {0}, {1}, {4}, {0, 0}, {2, 1}, {1, 2}, {3, 0, 1}, {0, 0, 0, 0}, {3, 2, 1, 0}, {0, 1, 2, 3}};
        for (int[] row : orders) {
            Counted x = Scenes.down();
            x.corrupt(0, 1);
            int map = 0;
            int blocks = 0;
            for (int k = 0; k < row.length; k++) {
                x.corrupt(3 + k, 1 + 8 * k + 32 * row[k]);
                map |= (1 << (1 << row[k])) - 1 << 8 * k;
                blocks += 1 << row[k];
            }
            x.corrupt(45, map);
            int withoutLast = row.length == 0 ? -1 : blocks - (1 << row[row.length - 1]);
            for (int length = 0; length <= 64; length++) {
                x.corrupt(2, length);
                boolean fits = 2 * withoutLast < length && length <= 2 * blocks;
                DUE.is("length " + length + " in " + java.util.Arrays.toString(row), x.fsck(), fits ? 0 : 5);
            }
        }
    }

    private static void clause6() {
        DUE.is("map", sample().peek(45), 0xfd);
        for (int b = 0; b < 32; b++) {
            judged("bit " + b, 6, 45, 0xfd ^ 1 << b);
        }
        judged("0", 6, 45, 0);
        judged("-1", 6, 45, -1);
        judged("with a run more", 0, 9, 1, 10, 1 + 31, 45, 0xfd | 1 << 31);
        judged("with a run more and no bit", 6, 9, 1, 10, 1 + 31);
    }

    private static void clause7() {
        int[] quotas = {-1, 33, Integer.MIN_VALUE, Integer.MAX_VALUE};
        for (int quota : quotas) {
            for (int owner = 0; owner < 3; owner++) {
                judged("owner " + owner + " quota " + quota, 7, 42 + owner, quota);
            }
        }
        judged("at the usage", 0, 43, 7);
        judged("below the usage", 7, 43, 6);
        judged("the others", 0, 42, 0, 44, 0);
        judged("another owner's file", 0, 43, 3, 15, 2);
        judged("another owner's file, too little", 7, 43, 2, 15, 2);
        judged("another owner's file, too much", 7, 44, 3, 15, 2);
    }

    private static void quotaOfAllBlocks() {
        Counted x = Scenes.down();
        put(x, new int[] {0, 1, 1, 2, 2, 64, 3, 161, 45, -1});
        DUE.is("32 blocks, quota 32", x.fsck(), 0);
        put(x, new int[] {44, 31});
        DUE.is("32 blocks, quota 31", x.fsck(), 7);
        put(x, new int[] {44, 33});
        DUE.is("32 blocks, quota 33", x.fsck(), 7);
        put(x, new int[] {42, 0, 43, 0, 44, 32});
        DUE.is("the others' quotas 0", x.fsck(), 0);
    }

    private static void clause8() {
        for (int i = 0; i < 64; i++) {
            boolean belongs = i == 0 || i == 1 || i >= 4 && i <= 6 || i >= 8 && i <= 15;
            judged("word " + i, belongs ? 0 : 8, 46 + i, 1);
            judged("word " + i + " is negative", belongs ? 0 : 8, 46 + i, Integer.MIN_VALUE);
            judged("word " + i + " is 0", 0, 46 + i, 0);
        }
        judged("a shorter file", 8, 2, 4);
        judged("a shorter file, its word 0", 0, 2, 4, 46 + 6, 0);
        judged("extents in falling order: the last word is the first block's", 8, 3, 1 + 2 + 32, 4, 1);
        judged("and the one behind it is loose", 0, 3, 1 + 2 + 32, 4, 1, 47, 0);
        judged("but all of the greater run belong", 0, 3, 1 + 2 + 32, 4, 1, 47, 0, 53, 1);
    }

    private static void theLeastClauseAnswers() {
        Counted x = sample();
        int[] cells = {46 + 63, 1, 42, 33, 45, 5, 2, 64, 10, 1 + 7, 20, 9, 7, 10, 1, 3};
        x.corrupt(4, 1 + 2 + 32);
        for (int i = 0; i < cells.length; i += 2) {
            x.corrupt(cells[i], cells[i + 1]);
            DUE.is("with cell " + cells[i], x.fsck(), 8 - i / 2);
        }
        DUE.is("mount", x.mount(), BuddyFiles.UNCLEAN);
    }

    private static void theLeastOfEveryTwoClausesAnswers() {
        for (int least = 1; least <= 8; least++) {
            for (int other = least; other <= 8; other++) {
                for (int[] first : BREAKERS[least - 1]) {
                    for (int[] second : BREAKERS[other - 1]) {
                        Counted x = sample();
                        put(x, second);
                        put(x, first);
                        DUE.is("clauses " + least + " and " + other, x.fsck(), least);
                        DUE.is("clauses " + least + " and " + other, x.mount(), BuddyFiles.UNCLEAN);
                    }
                }
            }
        }
    }

    /** Cells and words by turns. */
    private static void put(Counted x, int[] cells) {
        for (int i = 0; i < cells.length; i += 2) {
            DUE.is("corrupt " + cells[i], x.corrupt(cells[i], cells[i + 1]), true);
        }
    }

    private static void journalNumbers() {
        Counted x = Scenes.down();
        Scenes.putJournal(x, 46, 1);
        DUE.is("holds", x.fsck(), 8);
        int[] numbers = {0, -1, 2, 3, 109, 110, 111, 112, Integer.MIN_VALUE, Integer.MAX_VALUE};
        for (int number : numbers) {
            x.corrupt(110, number);
            DUE.is("number " + number, x.fsck(), 0);
            x.corrupt(111, number * 961 + 46 * 31 + 1);
            DUE.is("number " + number + " with its check", x.fsck(), 0);
        }
        DUE.is("no pairs", x.corrupt(110, 0), true);
        x.corrupt(111, 0);
        DUE.is("the check of no pairs", x.fsck(), 0);
        DUE.is("mount", x.mount(), 0);
    }

    private static void journalOfAllCells() {
        int[] pairs = new int[220];
        for (int i = 0; i < 110; i++) {
            pairs[2 * i] = i;
        }
        pairs[2 * 42 + 1] = 5;
        pairs[2 * 43 + 1] = 6;
        pairs[2 * 44 + 1] = 7;
        Counted x = Scenes.down();
        x.corrupt(0, -1);
        x.corrupt(109, -1);
        DUE.is("before", x.fsck(), 1);
        Scenes.putJournal(x, pairs);
        DUE.is("all 110 pairs", x.fsck(), 0);
        DUE.is("mount", x.mount(), 0);
        DUE.is("first", x.peek(0), 0);
        DUE.is("quota", x.peek(43), 6);
        DUE.is("last", x.peek(109), 0);
        x = Scenes.down();
        Scenes.putJournal(x, pairs);
        x.corrupt(110, 111);
        x.corrupt(0, -1);
        DUE.is("111 pairs do not hold", x.fsck(), 1);
    }

    /** The words of a formatted home for the cells 0 .. n - 1. */
    private static int[] pairsOfFreshHome(int n) {
        int[] pairs = new int[2 * n];
        for (int i = 0; i < n; i++) {
            pairs[2 * i] = i;
            pairs[2 * i + 1] = i >= 42 && i <= 44 ? 32 : 0;
        }
        return pairs;
    }

    private static void journalOfEveryNumber() {
        for (int n = 1; n <= 110; n++) {
            Counted x = Scenes.down();
            Scenes.putJournal(x, pairsOfFreshHome(n));
            DUE.is("spoilt cell " + (n - 1), x.corrupt(n - 1, -1), true);
            DUE.is("holds with " + n, x.fsck(), 0);
            DUE.is("mount with " + n, x.mount(), 0);
            DUE.is("number after " + n, x.peek(110), 0);
            DUE.is("the last address of " + n, x.peek(n - 1), n >= 43 && n <= 45 ? 32 : 0);
        }
    }

    /** The check is what the rule would give for such a number: over no pairs below 1, over all there are above 110. */
    private static void journalNumbersOutside() {
        int[] numbers = {0, -1, -110, Integer.MIN_VALUE, 111, 112, Integer.MAX_VALUE};
        for (int number : numbers) {
            Counted x = Scenes.down();
            int[] pairs = pairsOfFreshHome(110);
            Scenes.putJournal(x, pairs);
            int check = number;
            for (int i = 0; i < pairs.length && number > 0; i++) {
                check = check * 31 + pairs[i];
            }
            x.corrupt(111, check);
            x.corrupt(110, number);
            x.corrupt(44, 31);
            DUE.is("fsck with " + number, x.fsck(), 0);
            DUE.is("mount with " + number, x.mount(), 0);
            DUE.is("number " + number + " stays", x.peek(110), number);
            DUE.is("nothing was put with " + number, x.peek(44), 31);
        }
    }

    private static void journalOfOneAddress() {
        for (int address = -3; address <= 335; address++) {
            oneAddress(address);
        }
        oneAddress(Integer.MIN_VALUE);
        oneAddress(Integer.MAX_VALUE);
    }

    private static void oneAddress(int address) {
        boolean holds = address >= 0 && address <= 109;
        Counted x = Scenes.down();
        Scenes.putJournal(x, address, x.peek(address));
        DUE.is("fsck with address " + address, x.fsck(), 0);
        DUE.is("mount with address " + address, x.mount(), 0);
        DUE.is("number after address " + address, x.peek(110), holds ? 0 : 1);
    }

    private static void journalOfTwoAddresses() {
        int[] addresses = {-1, 0, 1, 2, 41, 45, 46, 108, 109, 110, Integer.MIN_VALUE, Integer.MAX_VALUE};
        for (int first : addresses) {
            for (int second : addresses) {
                boolean holds = 0 <= first && first < second && second <= 109;
                Counted x = Scenes.down();
                Scenes.putJournal(x, first, 0, second, 0);
                DUE.is("mount with " + first + " and " + second, x.mount(), 0);
                DUE.is("number after " + first + " and " + second, x.peek(110), holds ? 0 : 2);
            }
        }
    }

    private static void journalAddresses() {
        int[][] journals = {{46, 1, 46, 1}, {47, 1, 46, 1}, {-1, 1, 46, 1}, {Integer.MIN_VALUE, 1, 46, 1},
            {46, 1, 110, 1}, {46, 1, 111, 0}, {46, 1, 331, 0}, {46, 1, 332, 0}, {46, 1, Integer.MAX_VALUE, 0},
            {46, 1, 50, 1, 48, 0}, {46, 1, 47, 0, 47, 1}, {110, 1}, {-1, 1}};
        for (int i = 0; i < journals.length; i++) {
            Counted x = Scenes.down();
            Scenes.putJournal(x, journals[i]);
            DUE.is("journal " + i + " fsck", x.fsck(), 0);
            DUE.is("journal " + i + " mount", x.mount(), 0);
            DUE.is("journal " + i + " was not put", x.peek(46), 0);
        }
        Counted x = Scenes.down();
        Scenes.putJournal(x, 0, 0, 109, 1);
        DUE.is("least and greatest", x.fsck(), 8);
        x = Scenes.down();
        Scenes.putJournal(x, 108, 1, 109, 1);
        DUE.is("neighbours", x.mount(), BuddyFiles.UNCLEAN);
        DUE.is("put", x.peek(109), 1);
    }

    private static void journalCheck() {
        Counted x = Scenes.down();
        Scenes.putJournal(x, 43, 5, 46, Integer.MIN_VALUE, 109, Integer.MAX_VALUE);
        int check = x.peek(111);
        DUE.is("right", x.fsck(), 8);
        for (int bit = 0; bit < 32; bit++) {
            x.corrupt(111, check ^ 1 << bit);
            DUE.is("bit " + bit, x.fsck(), 0);
        }
        x.corrupt(111, check);
        DUE.is("right again", x.fsck(), 8);
        for (int cell = 112; cell < 118; cell++) {
            x.corrupt(cell, x.peek(cell) + 1);
            DUE.is("cell " + cell, x.fsck(), 0);
            x.corrupt(cell, x.peek(cell) - 1);
        }
        x.corrupt(118, 9);
        DUE.is("behind the pairs", x.fsck(), 8);
    }

    private static void journalMakesClean() {
        Counted x = sample();
        x.corrupt(1, 9);
        x.corrupt(45, 9);
        DUE.is("unclean", x.fsck(), 1);
        Scenes.putJournal(x, 1, 1, 45, 0xfd);
        DUE.is("with the journal", x.fsck(), 0);
        DUE.is("mount", x.mount(), 0);
        DUE.is("owner", x.peek(1), 1);
        DUE.is("open", x.open(10), 0);
        DUE.is("word", x.read(0, 4), 104);
        DUE.is("usage", x.usage(1), 7);
        DUE.is("sync", x.sync(), 0);
    }
}
