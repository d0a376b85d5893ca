/** Promises 7 to 11: write, read, truncate, length, extent. */
public final class WordsTest {
    private static final int[] NO_HANDLES = {-1, 1, 4, 5, Integer.MIN_VALUE, Integer.MAX_VALUE};
    private static final int[] NO_POSITIONS = {-1, 64, 65, Integer.MIN_VALUE, Integer.MAX_VALUE};
    private static final Due DUE = new Due();

    public static void main(String[] args) {
        writeWrites();
        writeFillsWithZeros();
        writeReachesEveryWord();
        writeCrossesRuns();
        writeAtTheLengthGrowsByOne();
        writeRefuses();
        writeRefusesWhenFull();
        writeRefusesOverQuota();
        readAtTheEnds();
        readAnswersZeroOutside();
        wordsOfNeighboursAreOutside();
        truncateShrinks();
        truncateGrows();
        truncateStays();
        truncateRefuses();
        truncateRefusesInOrder();
        truncateToTheEnds();
        lengthAnswers();
        extentAnswers();
        allRefuseWhenDown();
        DUE.end();
    }

    private static Counted withFile() {
        Counted x = new Counted();
        x.create(1, 0);
        x.open(1);
        return x;
    }

    private static void writeWrites() {
        Counted x = withFile();
        int[] words = {1, 0, -1, Integer.MIN_VALUE, Integer.MAX_VALUE};
        for (int p = 0; p < words.length; p++) {
            DUE.is("write " + p, x.write(0, p, words[p]), 0);
            DUE.is("length", x.length(0), p + 1);
        }
        for (int p = 0; p < words.length; p++) {
            DUE.is("read " + p, x.read(0, p), words[p]);
        }
        DUE.is("over", x.write(0, 1, 9), 0);
        DUE.is("read over", x.read(0, 1), 9);
        DUE.is("length stays", x.length(0), 5);
        DUE.is("its neighbour", x.read(0, 2), -1);
    }

    private static void writeFillsWithZeros() {
        Counted x = withFile();
        x.truncate(0, 10);
        for (int p = 0; p < 10; p++) {
            x.write(0, p, 100 + p);
        }
        x.truncate(0, 3);
        DUE.is("write behind", x.write(0, 8, 5), 0);
        DUE.is("length", x.length(0), 9);
        for (int p = 0; p < 9; p++) {
            DUE.is("read " + p, x.read(0, p), p < 3 ? 100 + p : p == 8 ? 5 : 0);
        }
        DUE.is("write at the length", x.write(0, 9, 6), 0);
        DUE.is("grown by one", x.length(0), 10);
    }

    private static void writeReachesEveryWord() {
        Counted x = withFile();
        DUE.is("the last position", x.write(0, 63, 63), 0);
        DUE.is("length", x.length(0), 64);
        for (int p = 0; p < 64; p++) {
            DUE.is("write " + p, x.write(0, p, 1000 + p), 0);
        }
        x.sync();
        for (int p = 0; p < 64; p++) {
            DUE.is("peek " + p, x.peek(46 + p), 1000 + p);
        }
    }

    /** Two files grow by turns, so that the runs of each lie apart. */
    private static void writeCrossesRuns() {
        Counted x = withFile();
        x.create(2, 1);
        x.open(2);
        for (int p = 0; p < 8; p += 2) {
            DUE.is("write 1", x.write(0, p, 10 + p), 0);
            DUE.is("write 2", x.write(1, p, 20 + p), 0);
            DUE.is("write 1", x.write(0, p + 1, 11 + p), 0);
        }
        int[] cellsOfFirst = {1, 3, 5, 7};
        for (int k = 0; k < 4; k++) {
            DUE.is("extent " + k, x.extent(0, k), cellsOfFirst[k]);
            DUE.is("extent of 2, " + k, x.extent(1, k), cellsOfFirst[k] + 1);
        }
        for (int p = 0; p < 8; p++) {
            DUE.is("read " + p, x.read(0, p), 10 + p);
        }
        x.sync();
        for (int p = 0; p < 8; p++) {
            DUE.is("peek " + p, x.peek(46 + 4 * (p / 2) + p % 2), 10 + p);
        }
        DUE.is("a fifth run", x.write(0, 8, 1), BuddyFiles.NO_SPACE);
        DUE.is("length stays", x.length(0), 8);
    }

    /** The file keeps the one run that it had with 64 words. */
    private static void writeAtTheLengthGrowsByOne() {
        Counted x = withFile();
        x.truncate(0, 64);
        x.truncate(0, 1);
        for (int p = 1; p < 64; p++) {
            DUE.is("write " + p, x.write(0, p, -p), 0);
            DUE.is("length " + p, x.length(0), p + 1);
            DUE.is("read " + p, x.read(0, p), -p);
            DUE.is("read behind " + p, x.read(0, p + 1), 0);
        }
        DUE.is("a position more", x.write(0, 64, 1), BuddyFiles.BAD_POSITION);
        DUE.is("length", x.length(0), 64);
    }

    private static void writeRefuses() {
        Counted x = withFile();
        for (int handle : NO_HANDLES) {
            DUE.is("write handle " + handle, x.write(handle, 0, 1), BuddyFiles.BAD_HANDLE);
            DUE.is("bad handle before position", x.write(handle, 64, 1), BuddyFiles.BAD_HANDLE);
        }
        for (int position : NO_POSITIONS) {
            DUE.is("write position " + position, x.write(0, position, 1), BuddyFiles.BAD_POSITION);
        }
        DUE.is("length", x.length(0), 0);
    }

    private static void writeRefusesWhenFull() {
        Counted x = withFile();
        x.create(2, 1);
        x.open(2);
        x.truncate(1, 64);
        DUE.is("no block is free", x.write(0, 0, 1), BuddyFiles.NO_SPACE);
        DUE.is("no space before over quota", x.setQuota(0, 0), 0);
        DUE.is("no space before over quota", x.write(0, 0, 1), BuddyFiles.NO_SPACE);
        DUE.is("bad position before no space", x.write(0, 64, 1), BuddyFiles.BAD_POSITION);
        DUE.is("within the length", x.write(1, 63, 5), 0);
        DUE.is("word", x.read(1, 63), 5);
        DUE.is("length", x.length(0), 0);
    }

    private static void writeRefusesOverQuota() {
        Counted x = withFile();
        x.setQuota(0, 2);
        DUE.is("within", x.write(0, 3, 1), 0);
        DUE.is("above", x.write(0, 4, 1), BuddyFiles.OVER_QUOTA);
        DUE.is("bad position before over quota", x.write(0, 64, 1), BuddyFiles.BAD_POSITION);
        DUE.is("length", x.length(0), 4);
        DUE.is("no run was kept", x.extent(0, 1), 0);
        DUE.is("usage", x.usage(0), 2);
        DUE.is("free order 1", x.free(1), 1);
        DUE.is("word", x.read(0, 3), 1);
        DUE.is("within the length", x.write(0, 0, 2), 0);
    }

    private static void readAtTheEnds() {
        Counted x = withFile();
        DUE.is("an empty file", x.read(0, 0), 0);
        x.truncate(0, 64);
        x.write(0, 0, 8);
        x.write(0, 63, 9);
        DUE.is("-1", x.read(0, -1), 0);
        DUE.is("0", x.read(0, 0), 8);
        DUE.is("63", x.read(0, 63), 9);
        DUE.is("64", x.read(0, 64), 0);
        x.truncate(0, 63);
        DUE.is("63 of a shorter file", x.read(0, 63), 0);
    }

    private static void readAnswersZeroOutside() {
        Counted x = withFile();
        x.write(0, 2, 7);
        DUE.is("last", x.read(0, 2), 7);
        DUE.is("at the length", x.read(0, 3), 0);
        for (int position : NO_POSITIONS) {
            DUE.is("read position " + position, x.read(0, position), 0);
        }
        for (int handle : NO_HANDLES) {
            DUE.is("read handle " + handle, x.read(handle, 2), 0);
        }
        DUE.is("length", x.length(0), 3);
    }

    /** The file has block 1; the blocks 0 and 2 on both sides are another's and full. */
    private static void wordsOfNeighboursAreOutside() {
        Counted x = withFile();
        x.create(2, 1);
        x.open(2);
        x.truncate(1, 2);
        x.truncate(0, 2);
        x.truncate(1, 4);
        for (int p = 0; p < 4; p++) {
            x.write(1, p, 40 + p);
        }
        x.write(0, 0, 7);
        DUE.is("its block", x.extent(0, 0), 2);
        int[] outside = {-64, -3, -2, -1, 2, 3, 4, 63, 64};
        for (int p : outside) {
            DUE.is("read " + p, x.read(0, p), 0);
        }
        DUE.is("write -1", x.write(0, -1, 5), BuddyFiles.BAD_POSITION);
        DUE.is("truncate -1", x.truncate(0, -1), BuddyFiles.BAD_POSITION);
        x.truncate(0, 0);
        for (int p = 0; p < 4; p++) {
            DUE.is("the neighbour's " + p, x.read(1, p), 40 + p);
        }
    }

    private static void truncateShrinks() {
        Counted x = withFile();
        for (int p = 0; p < 12; p++) {
            x.write(0, p, 50 + p);
        }
        DUE.is("truncate", x.truncate(0, 5), 0);
        DUE.is("length", x.length(0), 5);
        for (int p = 0; p < 5; p++) {
            DUE.is("kept " + p, x.read(0, p), 50 + p);
        }
        DUE.is("read behind", x.read(0, 5), 0);
        DUE.is("again longer", x.truncate(0, 12), 0);
        for (int p = 5; p < 12; p++) {
            DUE.is("gone " + p, x.read(0, p), 0);
        }
        DUE.is("to nothing", x.truncate(0, 0), 0);
        DUE.is("length", x.length(0), 0);
        DUE.is("no run", x.extent(0, 0), 0);
        DUE.is("usage", x.usage(0), 0);
        x.sync();
        for (int i = 0; i < 64; i++) {
            DUE.is("word " + i, x.peek(46 + i), 0);
        }
        DUE.is("map", x.peek(45), 0);
    }

    private static void truncateGrows() {
        Counted x = withFile();
        DUE.is("to 64", x.truncate(0, 64), 0);
        DUE.is("length", x.length(0), 64);
        DUE.is("one run", x.extent(0, 0), 161);
        for (int p = 0; p < 64; p++) {
            DUE.is("new word " + p, x.read(0, p), 0);
        }
        x = withFile();
        x.write(0, 0, 3);
        DUE.is("to 2", x.truncate(0, 2), 0);
        DUE.is("no new run", x.extent(0, 1), 0);
        DUE.is("to 3", x.truncate(0, 3), 0);
        DUE.is("a new run", x.extent(0, 1), 2);
        DUE.is("the old word", x.read(0, 0), 3);
    }

    private static void truncateStays() {
        Counted x = withFile();
        DUE.is("at 0", x.truncate(0, 0), 0);
        x.write(0, 4, 9);
        x.sync();
        DUE.is("at 5", x.truncate(0, 5), 0);
        DUE.is("nothing changed", x.sync(), 0);
        DUE.is("word", x.read(0, 4), 9);
    }

    private static void truncateRefuses() {
        Counted x = withFile();
        for (int handle : NO_HANDLES) {
            DUE.is("truncate handle " + handle, x.truncate(handle, 0), BuddyFiles.BAD_HANDLE);
            DUE.is("bad handle first", x.truncate(handle, 65), BuddyFiles.BAD_HANDLE);
        }
        int[] lengths = {-1, 65, Integer.MIN_VALUE, Integer.MAX_VALUE};
        for (int length : lengths) {
            DUE.is("truncate to " + length, x.truncate(0, length), BuddyFiles.BAD_POSITION);
        }
        x.setQuota(0, 3);
        DUE.is("at the quota", x.truncate(0, 4), 0);
        DUE.is("over quota", x.truncate(0, 60), BuddyFiles.OVER_QUOTA);
        DUE.is("a fifth run before over quota", x.truncate(0, 64), BuddyFiles.NO_SPACE);
        DUE.is("as it was", x.length(0), 4);
        DUE.is("as it was", x.extent(0, 1), 0);
        x.create(2, 1);
        x.open(2);
        x.truncate(1, 56);
        DUE.is("no space before over quota", x.truncate(0, 64), BuddyFiles.NO_SPACE);
        DUE.is("as it was", x.usage(0), 2);
        DUE.is("shrinking is not refused", x.truncate(0, 1), 0);
    }

    private static void truncateRefusesInOrder() {
        Counted x = withFile();
        x.create(2, 1);
        x.open(2);
        x.truncate(1, 64);
        x.setQuota(0, 0);
        DUE.is("bad handle before bad position", x.truncate(2, 65), BuddyFiles.BAD_HANDLE);
        DUE.is("bad handle before no space", x.truncate(2, 1), BuddyFiles.BAD_HANDLE);
        DUE.is("bad position before no space", x.truncate(0, 65), BuddyFiles.BAD_POSITION);
        DUE.is("bad position, though shrinking", x.truncate(1, -1), BuddyFiles.BAD_POSITION);
        DUE.is("no space before over quota", x.truncate(0, 1), BuddyFiles.NO_SPACE);
        x.truncate(1, 0);
        DUE.is("bad position before over quota", x.truncate(0, 65), BuddyFiles.BAD_POSITION);
        DUE.is("over quota", x.truncate(0, 1), BuddyFiles.OVER_QUOTA);
        DUE.is("staying is not refused", x.truncate(0, 0), 0);
    }

    private static void truncateToTheEnds() {
        Counted x = withFile();
        for (int round = 0; round < 2; round++) {
            DUE.is("64", x.truncate(0, 64), 0);
            DUE.is("length 64", x.length(0), 64);
            DUE.is("64 again", x.truncate(0, 64), 0);
            DUE.is("65", x.truncate(0, 65), BuddyFiles.BAD_POSITION);
            DUE.is("-1", x.truncate(0, -1), BuddyFiles.BAD_POSITION);
            DUE.is("length stays", x.length(0), 64);
            DUE.is("0", x.truncate(0, 0), 0);
            DUE.is("length 0", x.length(0), 0);
            DUE.is("0 again", x.truncate(0, 0), 0);
        }
    }

    private static void lengthAnswers() {
        Counted x = withFile();
        DUE.is("new", x.length(0), 0);
        x.write(0, 63, 0);
        DUE.is("full", x.length(0), 64);
        x.open(1);
        x.truncate(0, 7);
        DUE.is("through the other handle", x.length(1), 7);
        x.close(1);
        for (int handle : NO_HANDLES) {
            DUE.is("length handle " + handle, x.length(handle), BuddyFiles.BAD_HANDLE);
        }
    }

    private static void extentAnswers() {
        Counted x = withFile();
        x.write(0, 5, 1);
        DUE.is("extent 0", x.extent(0, 0), 1 + 32 * 2);
        for (int k = 1; k < 4; k++) {
            DUE.is("extent " + k, x.extent(0, k), 0);
        }
        int[] numbers = {-1, 4, Integer.MIN_VALUE, Integer.MAX_VALUE};
        for (int k : numbers) {
            DUE.is("extent " + k, x.extent(0, k), BuddyFiles.BAD_ARGUMENT);
        }
        for (int handle : NO_HANDLES) {
            DUE.is("extent handle " + handle, x.extent(handle, 0), BuddyFiles.BAD_HANDLE);
            DUE.is("bad handle first", x.extent(handle, 4), BuddyFiles.BAD_HANDLE);
        }
    }

    private static void allRefuseWhenDown() {
        Counted x = withFile();
        x.write(0, 0, 5);
        x.sync();
        x.write(0, 0, 6);
        x.crashAfter(0);
        x.sync();
        DUE.is("write", x.write(0, 0, 1), BuddyFiles.DOWN);
        DUE.is("write bad", x.write(9, 99, 1), BuddyFiles.DOWN);
        DUE.is("read", x.read(0, 0), 0);
        DUE.is("truncate", x.truncate(0, 0), BuddyFiles.DOWN);
        DUE.is("truncate bad", x.truncate(9, -1), BuddyFiles.DOWN);
        DUE.is("length", x.length(0), BuddyFiles.DOWN);
        DUE.is("length bad", x.length(9), BuddyFiles.DOWN);
        DUE.is("extent", x.extent(0, 0), BuddyFiles.DOWN);
        DUE.is("extent bad", x.extent(9, 9), BuddyFiles.DOWN);
        DUE.is("mount", x.mount(), 0);
        DUE.is("handles are gone", x.length(0), BuddyFiles.BAD_HANDLE);
        DUE.is("open", x.open(1), 0);
        DUE.is("as synced", x.read(0, 0), 5);
    }
}
