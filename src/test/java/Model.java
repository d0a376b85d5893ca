import java.util.ArrayList;
import java.util.HashSet;
import java.util.List;
import java.util.Map;
import java.util.Set;
import java.util.TreeMap;

/**
 * What the document says, told in another way than the program tells it: memory is a list of files, each with its
 * runs and words; the home is made from them when it is asked for, and the map is never kept.
 */
final class Model {
    /** Blocks first .. first + 2^order - 1. */
    record Run(int first, int order) {
        int blocks() {
            return 1 << order;
        }

        boolean holds(int block) {
            return block >= first && block < first + blocks();
        }
    }

    static final class File {
        int name;
        int owner;
        List<Run> runs = new ArrayList<>();
        List<Integer> words = new ArrayList<>();

        int blocks() {
            return blocksOf(runs);
        }
    }

    private final int[] disk = new int[332];
    private final File[] slots = new File[6];
    private final int[] quotas = new int[3];
    private final File[] handles = new File[4];
    private boolean up;
    /** Null when there is none. */
    private Integer fuse;

    Model() {
        format();
    }

    private static int blocksOf(List<Run> runs) {
        int blocks = 0;
        for (Run run : runs) {
            blocks += run.blocks();
        }
        return blocks;
    }

    private static int need(int length) {
        return length / 2 + length % 2;
    }

    private File named(int name) {
        for (File file : slots) {
            if (file != null && file.name == name) {
                return file;
            }
        }
        return null;
    }

    private int slotOf(File file) {
        for (int slot = 0; slot < 6; slot++) {
            if (slots[slot] == file) {
                return slot;
            }
        }
        throw new IllegalStateException("no such file");
    }

    private File openFor(int handle) {
        return handle >= 0 && handle < 4 ? handles[handle] : null;
    }

    private boolean busy(File file) {
        for (File open : handles) {
            if (open == file) {
                return true;
            }
        }
        return false;
    }

    private int[] home() {
        int[] home = new int[110];
        for (int slot = 0; slot < 6; slot++) {
            File file = slots[slot];
            if (file == null) {
                continue;
            }
            home[7 * slot] = file.name;
            home[7 * slot + 1] = file.owner;
            home[7 * slot + 2] = file.words.size();
            List<Integer> places = new ArrayList<>();
            for (int k = 0; k < file.runs.size(); k++) {
                Run run = file.runs.get(k);
                home[7 * slot + 3 + k] = 1 + run.first() + 32 * run.order();
                for (int block = run.first(); block < run.first() + run.blocks(); block++) {
                    home[45] |= 1 << block;
                    places.add(46 + 2 * block);
                    places.add(47 + 2 * block);
                }
            }
            for (int p = 0; p < file.words.size(); p++) {
                home[places.get(p)] = file.words.get(p);
            }
        }
        System.arraycopy(quotas, 0, home, 42, 3);
        return home;
    }

    void format() {
        java.util.Arrays.fill(disk, 0);
        java.util.Arrays.fill(disk, 42, 45, 32);
        load(disk);
    }

    /** The cells are those of a clean home. */
    private void load(int[] home) {
        for (int slot = 0; slot < 6; slot++) {
            slots[slot] = null;
            if (home[7 * slot] != 0) {
                File file = new File();
                file.name = home[7 * slot];
                file.owner = home[7 * slot + 1];
                file.runs = runsOf(home, slot);
                for (int index : belonging(home, slot)) {
                    file.words.add(home[46 + index]);
                }
                slots[slot] = file;
            }
        }
        System.arraycopy(home, 42, quotas, 0, 3);
        java.util.Arrays.fill(handles, null);
        fuse = null;
        up = true;
    }

    int create(int name, int owner) {
        if (!up) {
            return -11;
        }
        if (name < 1 || name > 99 || owner < 0 || owner > 2) {
            return -12;
        }
        if (named(name) != null) {
            return -1;
        }
        for (int slot = 0; slot < 6; slot++) {
            if (slots[slot] == null) {
                slots[slot] = new File();
                slots[slot].name = name;
                slots[slot].owner = owner;
                return slot;
            }
        }
        return -2;
    }

    int unlink(int name) {
        if (!up) {
            return -11;
        }
        File file = named(name);
        if (file == null) {
            return -3;
        }
        if (busy(file)) {
            return -4;
        }
        slots[slotOf(file)] = null;
        return 0;
    }

    int open(int name) {
        if (!up) {
            return -11;
        }
        File file = named(name);
        if (file == null) {
            return -3;
        }
        for (int handle = 0; handle < 4; handle++) {
            if (handles[handle] == null) {
                handles[handle] = file;
                return handle;
            }
        }
        return -5;
    }

    int close(int handle) {
        if (!up) {
            return -11;
        }
        if (openFor(handle) == null) {
            return -6;
        }
        handles[handle] = null;
        return 0;
    }

    int write(int handle, int position, int word) {
        if (!up) {
            return -11;
        }
        File file = openFor(handle);
        if (file == null) {
            return -6;
        }
        if (position < 0 || position > 63) {
            return -7;
        }
        int code = position < file.words.size() ? 0 : grow(file, position + 1);
        if (code == 0) {
            file.words.set(position, word);
        }
        return code;
    }

    int read(int handle, int position) {
        File file = up ? openFor(handle) : null;
        if (file == null || position < 0 || position >= file.words.size()) {
            return 0;
        }
        return file.words.get(position);
    }

    int truncate(int handle, int length) {
        if (!up) {
            return -11;
        }
        File file = openFor(handle);
        if (file == null) {
            return -6;
        }
        if (length < 0 || length > 64) {
            return -7;
        }
        if (length > file.words.size()) {
            return grow(file, length);
        }
        while (file.words.size() > length) {
            file.words.remove(file.words.size() - 1);
        }
        while (!file.runs.isEmpty()) {
            List<Run> without = file.runs.subList(0, file.runs.size() - 1);
            if (blocksOf(without) < need(length)) {
                break;
            }
            file.runs = new ArrayList<>(without);
        }
        return 0;
    }

    int length(int handle) {
        if (!up) {
            return -11;
        }
        return openFor(handle) == null ? -6 : openFor(handle).words.size();
    }

    int extent(int handle, int k) {
        if (!up) {
            return -11;
        }
        File file = openFor(handle);
        if (file == null) {
            return -6;
        }
        if (k < 0 || k > 3) {
            return -12;
        }
        return home()[7 * slotOf(file) + 3 + k];
    }

    int rename(int from, int to) {
        if (!up) {
            return -11;
        }
        File file = named(from);
        if (file == null) {
            return -3;
        }
        if (to < 1 || to > 99) {
            return -12;
        }
        File other = named(to);
        if (other == file) {
            return 0;
        }
        if (other != null) {
            if (busy(other)) {
                return -4;
            }
            slots[slotOf(other)] = null;
        }
        file.name = to;
        return 0;
    }

    int setQuota(int owner, int blocks) {
        if (!up) {
            return -11;
        }
        if (owner < 0 || owner > 2 || blocks < 0 || blocks > 32) {
            return -12;
        }
        if (usage(owner) > blocks) {
            return -10;
        }
        quotas[owner] = blocks;
        return 0;
    }

    int usage(int owner) {
        if (!up) {
            return -11;
        }
        if (owner < 0 || owner > 2) {
            return -12;
        }
        int blocks = 0;
        for (File file : slots) {
            if (file != null && file.owner == owner) {
                blocks += file.blocks();
            }
        }
        return blocks;
    }

    int free(int order) {
        if (!up) {
            return -11;
        }
        if (order < 0 || order > 5) {
            return -12;
        }
        int runs = 0;
        for (Run run : freeRuns(List.of())) {
            if (run.order() == order) {
                runs++;
            }
        }
        return runs;
    }

    /** By order, then by beginning; the blocks of the runs that were taken just now are used too. */
    private List<Run> freeRuns(List<Run> taken) {
        Set<Integer> used = new HashSet<>();
        for (File file : slots) {
            if (file != null) {
                addBlocks(used, file.runs);
            }
        }
        addBlocks(used, taken);
        List<Run> unused = new ArrayList<>();
        for (int order = 0; order <= 5; order++) {
            for (int first = 0; first < 32; first += 1 << order) {
                Run run = new Run(first, order);
                Set<Integer> blocks = new HashSet<>();
                addBlocks(blocks, List.of(run));
                blocks.retainAll(used);
                if (blocks.isEmpty()) {
                    unused.add(run);
                }
            }
        }
        List<Run> free = new ArrayList<>(unused);
        free.removeIf(run -> unused.stream().anyMatch(g -> g.order() > run.order() && g.holds(run.first())));
        return free;
    }

    private static void addBlocks(Set<Integer> blocks, List<Run> runs) {
        for (Run run : runs) {
            for (int block = run.first(); block < run.first() + run.blocks(); block++) {
                blocks.add(block);
            }
        }
    }

    private int grow(File file, int length) {
        List<Run> runs = new ArrayList<>(file.runs);
        while (blocksOf(runs) < need(length)) {
            List<Run> free = freeRuns(runs);
            if (runs.size() == 4 || free.isEmpty()) {
                return -8;
            }
            int missing = need(length) - blocksOf(runs);
            int order = 32 - Integer.numberOfLeadingZeros(missing - 1);
            int greatest = free.get(free.size() - 1).order();
            int taken = Math.min(order, greatest);
            Run from = free.stream().filter(run -> run.order() >= taken).findFirst().orElseThrow();
            runs.add(new Run(from.first(), taken));
        }
        if (usage(file.owner) - file.blocks() + blocksOf(runs) > quotas[file.owner]) {
            return -9;
        }
        file.runs = runs;
        while (file.words.size() < length) {
            file.words.add(0);
        }
        return 0;
    }

    int sync() {
        if (!up) {
            return -11;
        }
        int[] home = home();
        Map<Integer, Integer> changes = new TreeMap<>();
        for (int cell = 0; cell < 110; cell++) {
            if (home[cell] != disk[cell]) {
                changes.put(cell, home[cell]);
            }
        }
        List<int[]> writes = new ArrayList<>();
        long check = changes.size();
        for (Map.Entry<Integer, Integer> change : changes.entrySet()) {
            writes.add(new int[] {112 + writes.size(), change.getKey()});
            writes.add(new int[] {112 + writes.size(), change.getValue()});
            check = (int) (check * 31 + change.getKey());
            check = (int) (check * 31 + change.getValue());
        }
        if (changes.isEmpty()) {
            return 0;
        }
        writes.add(new int[] {111, (int) check});
        writes.add(new int[] {110, changes.size()});
        changes.forEach((cell, word) -> writes.add(new int[] {cell, word}));
        writes.add(new int[] {110, 0});
        for (int[] write : writes) {
            if (fuse != null && fuse == 0) {
                up = false;
                fuse = null;
                return -11;
            }
            fuse = fuse == null ? null : fuse - 1;
            disk[write[0]] = write[1];
        }
        return changes.size();
    }

    boolean crashAfter(int n) {
        if (!up || n < -1) {
            return false;
        }
        fuse = n == -1 ? null : n;
        return true;
    }

    /** The home that mount would judge. */
    private int[] homeWithJournal() {
        int[] home = java.util.Arrays.copyOf(disk, 110);
        int n = disk[110];
        if (n < 1 || n > 110) {
            return home;
        }
        int check = n;
        TreeMap<Integer, Integer> pairs = new TreeMap<>();
        for (int i = 0; i < n; i++) {
            int address = disk[112 + 2 * i];
            if (address < 0 || address > 109 || !pairs.isEmpty() && pairs.lastKey() >= address) {
                return home;
            }
            pairs.put(address, disk[113 + 2 * i]);
            check = check * 31 + address;
            check = check * 31 + disk[113 + 2 * i];
        }
        if (check == disk[111]) {
            pairs.forEach((cell, word) -> home[cell] = word);
        }
        return home;
    }

    boolean journalHolds() {
        int n = disk[110];
        int check = n;
        for (int i = 0; i < n && n <= 110; i++) {
            boolean rises = i == 0 || disk[112 + 2 * i] > disk[110 + 2 * i];
            if (!rises || disk[112 + 2 * i] < 0 || disk[112 + 2 * i] > 109) {
                return false;
            }
            check = (check * 31 + disk[112 + 2 * i]) * 31 + disk[113 + 2 * i];
        }
        return n >= 1 && n <= 110 && check == disk[111];
    }

    int mount() {
        if (up) {
            return -4;
        }
        if (journalHolds()) {
            System.arraycopy(homeWithJournal(), 0, disk, 0, 110);
            disk[110] = 0;
        }
        if (broken(disk) != 0) {
            return -13;
        }
        load(disk);
        return 0;
    }

    boolean corrupt(int cell, int word) {
        if (up || cell < 0 || cell > 331) {
            return false;
        }
        disk[cell] = word;
        return true;
    }

    int fsck() {
        return broken(homeWithJournal());
    }

    int peek(int cell) {
        return cell < 0 || cell > 331 ? 0 : disk[cell];
    }

    boolean isUp() {
        return up;
    }

    private static Run runOf(int cell) {
        for (int order = 0; order <= 5; order++) {
            for (int first = 0; first < 32; first += 1 << order) {
                if (cell == 1 + first + 32 * order) {
                    return new Run(first, order);
                }
            }
        }
        return null;
    }

    private static List<Run> runsOf(int[] home, int slot) {
        List<Run> runs = new ArrayList<>();
        for (int k = 0; k < 4; k++) {
            if (home[7 * slot + 3 + k] != 0) {
                runs.add(runOf(home[7 * slot + 3 + k]));
            }
        }
        return runs;
    }

    private static List<Integer> belonging(int[] home, int slot) {
        List<Integer> places = new ArrayList<>();
        for (Run run : runsOf(home, slot)) {
            for (int i = 0; i < 2 * run.blocks(); i++) {
                places.add(2 * run.first() + i);
            }
        }
        return places.subList(0, home[7 * slot + 2]);
    }

    /** The least clause that is broken, or 0. */
    private static int broken(int[] home) {
        for (int slot = 0; slot < 6; slot++) {
            int at = 7 * slot;
            if (home[at] < 0 || home[at] > 99 || home[at + 1] < 0 || home[at + 1] > 2
                    || home[at + 2] < 0 || home[at + 2] > 64) {
                return 1;
            }
            for (int i = 1; i < 7; i++) {
                if (home[at] == 0 && home[at + i] != 0) {
                    return 1;
                }
            }
        }
        Set<Integer> names = new HashSet<>();
        for (int slot = 0; slot < 6; slot++) {
            if (home[7 * slot] != 0 && !names.add(home[7 * slot])) {
                return 2;
            }
        }
        for (int slot = 0; slot < 6; slot++) {
            for (int k = 0; k < 4; k++) {
                int cell = home[7 * slot + 3 + k];
                if (cell != 0 && (runOf(cell) == null || k > 0 && home[7 * slot + 2 + k] == 0)) {
                    return 3;
                }
            }
        }
        return brokenBehind3(home);
    }

    private static int brokenBehind3(int[] home) {
        List<Integer> blocks = new ArrayList<>();
        int[] usage = new int[3];
        boolean fits = true;
        for (int slot = 0; slot < 6; slot++) {
            List<Run> runs = runsOf(home, slot);
            for (Run run : runs) {
                for (int block = 0; block < run.blocks(); block++) {
                    blocks.add(run.first() + block);
                }
            }
            usage[home[7 * slot + 1]] += blocksOf(runs);
            int need = need(home[7 * slot + 2]);
            fits &= blocksOf(runs) >= need;
            fits &= runs.isEmpty() || blocksOf(runs.subList(0, runs.size() - 1)) < need;
        }
        Set<Integer> used = new HashSet<>(blocks);
        if (used.size() < blocks.size()) {
            return 4;
        }
        if (!fits) {
            return 5;
        }
        for (int block = 0; block < 32; block++) {
            if ((home[45] >> block & 1) != (used.contains(block) ? 1 : 0)) {
                return 6;
            }
        }
        for (int owner = 0; owner < 3; owner++) {
            if (home[42 + owner] < 0 || home[42 + owner] > 32 || home[42 + owner] < usage[owner]) {
                return 7;
            }
        }
        Set<Integer> words = new HashSet<>();
        for (int slot = 0; slot < 6; slot++) {
            words.addAll(belonging(home, slot));
        }
        for (int i = 0; i < 64; i++) {
            if (!words.contains(i) && home[46 + i] != 0) {
                return 8;
            }
        }
        return 0;
    }
}
