/**
 * A small file system on a disk of cells. The promises that it keeps are
 * numbered in the project's document; README.md tells how to use it.
 */
public final class BuddyFiles {
    public static final int EXISTS = -1;
    public static final int NO_SLOT = -2;
    public static final int NO_FILE = -3;
    public static final int BUSY = -4;
    public static final int NO_HANDLE = -5;
    public static final int BAD_HANDLE = -6;
    public static final int BAD_POSITION = -7;
    public static final int NO_SPACE = -8;
    public static final int OVER_QUOTA = -9;
    public static final int BELOW_USAGE = -10;
    public static final int DOWN = -11;
    public static final int BAD_ARGUMENT = -12;
    public static final int UNCLEAN = -13;

    private static final int SLOTS = 6;
    private static final int SLOT_CELLS = 7;
    private static final int EXTENTS = 4;
    private static final int OWNERS = 3;
    private static final int QUOTAS = 42;
    private static final int MAP = 45;
    private static final int WORDS = 46;
    private static final int HOME_CELLS = 110;
    private static final int DISK_CELLS = 332;

    private static final int TOP_NAME = 99;
    private static final int TOP_LENGTH = 64;
    private static final int BLOCKS = 32;
    private static final int TOP_ORDER = 5;

    private static final int NONE = -1;
    private static final int HANDLES = 4;

    private final Disk disk;
    private final Home memory;
    /** A second home, so that the disk can be judged while memory is in use. */
    private final Home judged;
    /** The slot that each handle is open for, or NONE. */
    private final int[] slotOfHandle;
    private boolean up;
    /** How many more cells may be written, or NONE when no fuse is set. */
    private int fuse;

    public BuddyFiles() {
        disk = new Disk();
        memory = new Home();
        judged = new Home();
        slotOfHandle = new int[HANDLES];
        startAfresh();
    }

    public void format() {
        startAfresh();
    }

    public int create(int name, int owner) {
        if (!up) {
            return DOWN;
        }
        if (!isName(name) || !isOwner(owner)) {
            return BAD_ARGUMENT;
        }
        if (memory.slotOf(name) != NONE) {
            return EXISTS;
        }
        int slot = memory.emptySlot();
        if (slot == NONE) {
            return NO_SLOT;
        }
        memory.makeFile(slot, name, owner);
        return slot;
    }

    public int unlink(int name) {
        if (!up) {
            return DOWN;
        }
        int slot = memory.slotOf(name);
        if (slot == NONE) {
            return NO_FILE;
        }
        if (isInUse(slot)) {
            return BUSY;
        }
        memory.dropFile(slot);
        return 0;
    }

    public int open(int name) {
        if (!up) {
            return DOWN;
        }
        int slot = memory.slotOf(name);
        if (slot == NONE) {
            return NO_FILE;
        }
        int handle = closedHandle();
        if (handle == NONE) {
            return NO_HANDLE;
        }
        slotOfHandle[handle] = slot;
        return handle;
    }

    public int close(int handle) {
        if (!up) {
            return DOWN;
        }
        if (!isOpen(handle)) {
            return BAD_HANDLE;
        }
        slotOfHandle[handle] = NONE;
        return 0;
    }

    public int write(int handle, int position, int word) {
        if (!up) {
            return DOWN;
        }
        if (!isOpen(handle)) {
            return BAD_HANDLE;
        }
        if (position < 0 || position >= TOP_LENGTH) {
            return BAD_POSITION;
        }
        int slot = slotOfHandle[handle];
        if (position >= memory.lengthOf(slot)) {
            int refusal = memory.grow(slot, position + 1);
            if (refusal != 0) {
                return refusal;
            }
        }
        memory.putWord(slot, position, word);
        return 0;
    }

    public int read(int handle, int position) {
        if (!up || !isOpen(handle)) {
            return 0;
        }
        int slot = slotOfHandle[handle];
        if (position < 0 || position >= memory.lengthOf(slot)) {
            return 0;
        }
        return memory.wordAt(slot, position);
    }

    public int truncate(int handle, int length) {
        if (!up) {
            return DOWN;
        }
        if (!isOpen(handle)) {
            return BAD_HANDLE;
        }
        if (length < 0 || length > TOP_LENGTH) {
            return BAD_POSITION;
        }
        int slot = slotOfHandle[handle];
        if (length > memory.lengthOf(slot)) {
            return memory.grow(slot, length);
        }
        memory.shrink(slot, length);
        return 0;
    }

    public int length(int handle) {
        if (!up) {
            return DOWN;
        }
        if (!isOpen(handle)) {
            return BAD_HANDLE;
        }
        return memory.lengthOf(slotOfHandle[handle]);
    }

    public int extent(int handle, int k) {
        if (!up) {
            return DOWN;
        }
        if (!isOpen(handle)) {
            return BAD_HANDLE;
        }
        if (k < 0 || k >= EXTENTS) {
            return BAD_ARGUMENT;
        }
        return memory.extentOf(slotOfHandle[handle], k);
    }

    public int rename(int from, int to) {
        if (!up) {
            return DOWN;
        }
        int slot = memory.slotOf(from);
        if (slot == NONE) {
            return NO_FILE;
        }
        if (!isName(to)) {
            return BAD_ARGUMENT;
        }
        if (from == to) {
            return 0;
        }
        int replaced = memory.slotOf(to);
        if (replaced != NONE) {
            if (isInUse(replaced)) {
                return BUSY;
            }
            memory.dropFile(replaced);
        }
        memory.nameFile(slot, to);
        return 0;
    }

    public int setQuota(int owner, int blocks) {
        if (!up) {
            return DOWN;
        }
        if (!isOwner(owner) || blocks < 0 || blocks > BLOCKS) {
            return BAD_ARGUMENT;
        }
        if (memory.usageOf(owner) > blocks) {
            return BELOW_USAGE;
        }
        memory.putQuota(owner, blocks);
        return 0;
    }

    public int usage(int owner) {
        if (!up) {
            return DOWN;
        }
        if (!isOwner(owner)) {
            return BAD_ARGUMENT;
        }
        return memory.usageOf(owner);
    }

    public int free(int order) {
        if (!up) {
            return DOWN;
        }
        if (order < 0 || order > TOP_ORDER) {
            return BAD_ARGUMENT;
        }
        return memory.freeRunsOf(order);
    }

    public int sync() {
        if (!up) {
            return DOWN;
        }
        int changes = countChanges();
        if (changes == 0) {
            return 0;
        }
        if (writeJournal(changes) && writeHome() && writeCell(Disk.COUNT, 0)) {
            return changes;
        }
        up = false;
        return DOWN;
    }

    public boolean crashAfter(int n) {
        if (!up || n < NONE) {
            return false;
        }
        fuse = n;
        return true;
    }

    public int mount() {
        if (up) {
            return BUSY;
        }
        if (disk.journalHolds()) {
            disk.replayJournal();
        }
        judged.copyFrom(disk.cells);
        if (Checker.leastBroken(judged) != 0) {
            return UNCLEAN;
        }
        memory.copyFrom(disk.cells);
        goUp();
        return 0;
    }

    public boolean corrupt(int cell, int word) {
        if (up || cell < 0 || cell >= DISK_CELLS) {
            return false;
        }
        disk.cells[cell] = word;
        return true;
    }

    public int fsck() {
        judged.copyFrom(disk.cells);
        if (disk.journalHolds()) {
            disk.replayInto(judged.cells);
        }
        return Checker.leastBroken(judged);
    }

    public int peek(int cell) {
        if (cell < 0 || cell >= DISK_CELLS) {
            return 0;
        }
        return disk.cells[cell];
    }

    private void startAfresh() {
        disk.clear();
        memory.copyFrom(disk.cells);
        goUp();
    }

    /** Handles and fuse are cleared here and not when it goes down: nothing asks for them in between. */
    private void goUp() {
        for (int h = 0; h < HANDLES; h++) {
            slotOfHandle[h] = NONE;
        }
        fuse = NONE;
        up = true;
    }

    private int closedHandle() {
        for (int h = 0; h < HANDLES; h++) {
            if (slotOfHandle[h] == NONE) {
                return h;
            }
        }
        return NONE;
    }

    private boolean isOpen(int handle) {
        return handle >= 0 && handle < HANDLES && slotOfHandle[handle] != NONE;
    }

    private boolean isInUse(int slot) {
        for (int h = 0; h < HANDLES; h++) {
            if (slotOfHandle[h] == slot) {
                return true;
            }
        }
        return false;
    }

    private static boolean isName(int name) {
        return name >= 1 && name <= TOP_NAME;
    }

    private static boolean isOwner(int owner) {
        return owner >= 0 && owner < OWNERS;
    }

    private boolean isChanged(int cell) {
        return disk.cells[cell] != memory.cells[cell];
    }

    private int countChanges() {
        int changes = 0;
        for (int cell = 0; cell < HOME_CELLS; cell++) {
            if (isChanged(cell)) {
                changes++;
            }
        }
        return changes;
    }

    /** False when the fuse stopped it. The number comes last: only with it does the journal hold. */
    private boolean writeJournal(int changes) {
        int check = changes;
        int pair = Disk.PAIRS;
        for (int cell = 0; cell < HOME_CELLS; cell++) {
            if (isChanged(cell)) {
                int word = memory.cells[cell];
                if (!writeCell(pair, cell) || !writeCell(pair + 1, word)) {
                    return false;
                }
                check = Disk.nextCheck(check, cell, word);
                pair += 2;
            }
        }
        return writeCell(Disk.CHECK, check) && writeCell(Disk.COUNT, changes);
    }

    /** False when the fuse stopped it. */
    private boolean writeHome() {
        for (int cell = 0; cell < HOME_CELLS; cell++) {
            if (isChanged(cell) && !writeCell(cell, memory.cells[cell])) {
                return false;
            }
        }
        return true;
    }

    /** False when the fuse forbids it: then nothing is written. */
    private boolean writeCell(int cell, int word) {
        if (fuse == 0) {
            return false;
        }
        if (fuse > 0) {
            fuse--;
        }
        disk.cells[cell] = word;
        return true;
    }

    /** All cells of the disk: a home, and the journal behind it. */
    private static final class Disk {
        static final int COUNT = 110;
        static final int CHECK = 111;
        static final int PAIRS = 112;

        final int[] cells = new int[DISK_CELLS];

        void clear() {
            for (int cell = 0; cell < DISK_CELLS; cell++) {
                cells[cell] = 0;
            }
            for (int owner = 0; owner < OWNERS; owner++) {
                cells[QUOTAS + owner] = BLOCKS;
            }
        }

        boolean journalHolds() {
            int count = cells[COUNT];
            if (count < 1 || count > HOME_CELLS) {
                return false;
            }
            int check = count;
            int before = -1;
            for (int i = 0; i < count; i++) {
                int address = cells[PAIRS + 2 * i];
                if (address <= before || address >= HOME_CELLS) {
                    return false;
                }
                check = nextCheck(check, address, cells[PAIRS + 2 * i + 1]);
                before = address;
            }
            return check == cells[CHECK];
        }

        static int nextCheck(int check, int address, int word) {
            return (check * 31 + address) * 31 + word;
        }

        void replayJournal() {
            replayInto(cells);
            cells[COUNT] = 0;
        }

        /** To be called only when the journal holds: then its number and addresses are in bounds. */
        void replayInto(int[] home) {
            int count = cells[COUNT];
            for (int i = 0; i < count; i++) {
                home[cells[PAIRS + 2 * i]] = cells[PAIRS + 2 * i + 1];
            }
        }
    }

    /** What an extent cell says of its run. */
    private static final class Run {
        static int cellOf(int first, int order) {
            return 1 + first + BLOCKS * order;
        }

        static int firstOf(int cell) {
            return (cell - 1) % BLOCKS;
        }

        static int orderOf(int cell) {
            return (cell - 1) / BLOCKS;
        }

        static int blocksOf(int cell) {
            return cell == 0 ? 0 : 1 << orderOf(cell);
        }

        static boolean isRun(int cell) {
            if (cell < 1 || cell > cellOf(0, TOP_ORDER)) {
                return false;
            }
            return (firstOf(cell) & (blocksOf(cell) - 1)) == 0;
        }

        static int bitsOf(int cell) {
            return cell == 0 ? 0 : mapBits(firstOf(cell), orderOf(cell));
        }

        /** Shifted down from all ones, for 1 << 32 would be 1 and not 0. */
        static int mapBits(int first, int order) {
            return (-1 >>> (BLOCKS - (1 << order))) << first;
        }
    }

    /** A home: file slots, quotas, map and words. All but the bare cells asks for a clean one. */
    private static final class Home {
        final int[] cells = new int[HOME_CELLS];

        void copyFrom(int[] other) {
            System.arraycopy(other, 0, cells, 0, HOME_CELLS);
        }

        int nameOf(int slot) {
            return cells[SLOT_CELLS * slot];
        }

        int ownerOf(int slot) {
            return cells[SLOT_CELLS * slot + 1];
        }

        int lengthOf(int slot) {
            return cells[SLOT_CELLS * slot + 2];
        }

        int extentOf(int slot, int k) {
            return cells[SLOT_CELLS * slot + 3 + k];
        }

        int quotaOf(int owner) {
            return cells[QUOTAS + owner];
        }

        void putLength(int slot, int length) {
            cells[SLOT_CELLS * slot + 2] = length;
        }

        void putExtent(int slot, int k, int run) {
            cells[SLOT_CELLS * slot + 3 + k] = run;
        }

        void putQuota(int owner, int blocks) {
            cells[QUOTAS + owner] = blocks;
        }

        /** NONE for names that no file can have: an empty slot's 0 is not a name. */
        int slotOf(int name) {
            for (int slot = 0; slot < SLOTS; slot++) {
                if (name != 0 && nameOf(slot) == name) {
                    return slot;
                }
            }
            return NONE;
        }

        int emptySlot() {
            for (int slot = 0; slot < SLOTS; slot++) {
                if (nameOf(slot) == 0) {
                    return slot;
                }
            }
            return NONE;
        }

        void nameFile(int slot, int name) {
            cells[SLOT_CELLS * slot] = name;
        }

        void makeFile(int slot, int name, int owner) {
            cells[SLOT_CELLS * slot] = name;
            cells[SLOT_CELLS * slot + 1] = owner;
        }

        void dropFile(int slot) {
            shrink(slot, 0);
            makeFile(slot, 0, 0);
        }

        int runsOf(int slot) {
            int runs = 0;
            for (int k = 0; k < EXTENTS; k++) {
                if (extentOf(slot, k) != 0) {
                    runs++;
                }
            }
            return runs;
        }

        int blocksOf(int slot) {
            int blocks = 0;
            for (int k = 0; k < EXTENTS; k++) {
                blocks += Run.blocksOf(extentOf(slot, k));
            }
            return blocks;
        }

        int usageOf(int owner) {
            int blocks = 0;
            for (int slot = 0; slot < SLOTS; slot++) {
                if (ownerOf(slot) == owner) {
                    blocks += blocksOf(slot);
                }
            }
            return blocks;
        }

        /** Which of all words is the word at a position, or NONE behind the slot's runs. */
        int wordIndex(int slot, int position) {
            int rest = position;
            for (int k = 0; k < EXTENTS; k++) {
                int run = extentOf(slot, k);
                int words = 2 * Run.blocksOf(run);
                if (rest < words) {
                    return 2 * Run.firstOf(run) + rest;
                }
                rest -= words;
            }
            return NONE;
        }

        int wordAt(int slot, int position) {
            int index = wordIndex(slot, position);
            return index == NONE ? 0 : cells[WORDS + index];
        }

        void putWord(int slot, int position, int word) {
            int index = wordIndex(slot, position);
            if (index != NONE) {
                cells[WORDS + index] = word;
            }
        }

        static int needOf(int length) {
            return (length + 1) / 2;
        }

        /**
         * 0, or the code of the refusal: then all is put back as it was. The new words are 0 already, as are all
         * words that belong to no file.
         */
        int grow(int slot, int length) {
            int mapBefore = cells[MAP];
            int runsBefore = runsOf(slot);
            int refusal = takeRuns(slot, runsBefore, needOf(length));
            if (refusal == 0 && usageOf(ownerOf(slot)) > quotaOf(ownerOf(slot))) {
                refusal = OVER_QUOTA;
            }
            if (refusal == 0) {
                putLength(slot, length);
                return 0;
            }
            cells[MAP] = mapBefore;
            for (int k = runsBefore; k < EXTENTS; k++) {
                putExtent(slot, k, 0);
            }
            return refusal;
        }

        /** 0, or NO_SPACE: then the runs taken so far stand. */
        private int takeRuns(int slot, int runsBefore, int need) {
            int blocks = blocksOf(slot);
            for (int k = runsBefore; k < EXTENTS && blocks < need; k++) {
                int run = takeRunFor(need - blocks);
                if (run == 0) {
                    return NO_SPACE;
                }
                putExtent(slot, k, run);
                blocks += Run.blocksOf(run);
            }
            return blocks < need ? NO_SPACE : 0;
        }

        /** The extent cell of the run, or 0 when no block is free. */
        private int takeRunFor(int missing) {
            for (int order = orderFor(missing); order >= 0; order--) {
                int run = takeRun(order);
                if (run != 0) {
                    return run;
                }
            }
            return 0;
        }

        static int orderFor(int blocks) {
            int order = 0;
            while (order < TOP_ORDER && (1 << order) < blocks) {
                order++;
            }
            return order;
        }

        /** The extent cell of the run, or 0 when there is no free run of this order or more. */
        private int takeRun(int order) {
            for (int source = order; source <= TOP_ORDER; source++) {
                for (int i = 0; i < BLOCKS >> source; i++) {
                    int first = i << source;
                    if (isFreeRun(first, source)) {
                        cells[MAP] |= Run.mapBits(first, order);
                        return Run.cellOf(first, order);
                    }
                }
            }
            return 0;
        }

        int freeRunsOf(int order) {
            int runs = 0;
            for (int i = 0; i < BLOCKS >> order; i++) {
                if (isFreeRun(i << order, order)) {
                    runs++;
                }
            }
            return runs;
        }

        /** The run of the next order round this one decides: every greater one holds that one too. */
        private boolean isFreeRun(int first, int order) {
            int map = cells[MAP];
            if ((map & Run.mapBits(first, order)) != 0) {
                return false;
            }
            if (order == TOP_ORDER) {
                return true;
            }
            int firstOfGreater = first & -(2 << order);
            return (map & Run.mapBits(firstOfGreater, order + 1)) != 0;
        }

        /** The words go first, while the runs still tell where they are. */
        void shrink(int slot, int length) {
            int lengthBefore = lengthOf(slot);
            for (int position = length; position < lengthBefore; position++) {
                putWord(slot, position, 0);
            }
            putLength(slot, length);
            giveBackRuns(slot, needOf(length));
        }

        private void giveBackRuns(int slot, int need) {
            int blocks = blocksOf(slot);
            for (int k = runsOf(slot) - 1; k >= 0; k--) {
                int run = extentOf(slot, k);
                blocks -= Run.blocksOf(run);
                if (blocks < need) {
                    return;
                }
                cells[MAP] &= ~Run.bitsOf(run);
                putExtent(slot, k, 0);
            }
        }
    }

    /** Judges a home. Each clause counts on those before it: only they make the cells safe to follow. */
    private static final class Checker {
        /** The least clause that is broken, or 0 when the home is clean. */
        static int leastBroken(Home home) {
            if (!slotsAreInRange(home)) {
                return 1;
            }
            if (!namesDiffer(home)) {
                return 2;
            }
            if (!extentsAreRuns(home)) {
                return 3;
            }
            if (!runsAreApart(home)) {
                return 4;
            }
            if (!runsFitLengths(home)) {
                return 5;
            }
            if (home.cells[MAP] != bitsOfAllRuns(home)) {
                return 6;
            }
            if (!quotasCoverUsage(home)) {
                return 7;
            }
            return looseWordsAreZero(home) ? 0 : 8;
        }

        private static boolean isIn(int value, int least, int greatest) {
            return value >= least && value <= greatest;
        }

        private static boolean slotsAreInRange(Home home) {
            for (int slot = 0; slot < SLOTS; slot++) {
                if (!isIn(home.nameOf(slot), 0, TOP_NAME)
                        || !isIn(home.ownerOf(slot), 0, OWNERS - 1)
                        || !isIn(home.lengthOf(slot), 0, TOP_LENGTH)) {
                    return false;
                }
                if (home.nameOf(slot) == 0 && !isAllZero(home, slot)) {
                    return false;
                }
            }
            return true;
        }

        private static boolean isAllZero(Home home, int slot) {
            for (int i = 0; i < SLOT_CELLS; i++) {
                if (home.cells[SLOT_CELLS * slot + i] != 0) {
                    return false;
                }
            }
            return true;
        }

        private static boolean namesDiffer(Home home) {
            for (int slot = 1; slot < SLOTS; slot++) {
                for (int other = 0; other < slot; other++) {
                    if (home.nameOf(slot) != 0 && home.nameOf(slot) == home.nameOf(other)) {
                        return false;
                    }
                }
            }
            return true;
        }

        private static boolean extentsAreRuns(Home home) {
            for (int slot = 0; slot < SLOTS; slot++) {
                boolean ended = false;
                for (int k = 0; k < EXTENTS; k++) {
                    int run = home.extentOf(slot, k);
                    if (run == 0) {
                        ended = true;
                    } else if (ended || !Run.isRun(run)) {
                        return false;
                    }
                }
            }
            return true;
        }

        private static boolean runsAreApart(Home home) {
            int seen = 0;
            for (int slot = 0; slot < SLOTS; slot++) {
                for (int k = 0; k < EXTENTS; k++) {
                    int bits = Run.bitsOf(home.extentOf(slot, k));
                    if ((seen & bits) != 0) {
                        return false;
                    }
                    seen |= bits;
                }
            }
            return true;
        }

        private static boolean runsFitLengths(Home home) {
            for (int slot = 0; slot < SLOTS; slot++) {
                int need = Home.needOf(home.lengthOf(slot));
                int blocks = home.blocksOf(slot);
                int runs = home.runsOf(slot);
                if (blocks < need) {
                    return false;
                }
                if (runs > 0 && blocks - Run.blocksOf(home.extentOf(slot, runs - 1)) >= need) {
                    return false;
                }
            }
            return true;
        }

        private static int bitsOfAllRuns(Home home) {
            int bits = 0;
            for (int slot = 0; slot < SLOTS; slot++) {
                for (int k = 0; k < EXTENTS; k++) {
                    bits |= Run.bitsOf(home.extentOf(slot, k));
                }
            }
            return bits;
        }

        private static boolean quotasCoverUsage(Home home) {
            for (int owner = 0; owner < OWNERS; owner++) {
                if (!isIn(home.quotaOf(owner), home.usageOf(owner), BLOCKS)) {
                    return false;
                }
            }
            return true;
        }

        private static boolean looseWordsAreZero(Home home) {
            long belonging = 0;
            for (int slot = 0; slot < SLOTS; slot++) {
                belonging |= bitsOfWords(home, slot);
            }
            for (int i = 0; i < TOP_LENGTH; i++) {
                if (((belonging >>> i) & 1L) == 0L && home.cells[WORDS + i] != 0) {
                    return false;
                }
            }
            return true;
        }

        /** Bit i for each word i that belongs to the file. */
        private static long bitsOfWords(Home home, int slot) {
            long bits = 0;
            int length = home.lengthOf(slot);
            for (int position = 0; position < length; position++) {
                int index = home.wordIndex(slot, position);
                if (index != NONE) {
                    bits |= 1L << index;
                }
            }
            return bits;
        }
    }
}
