/** A BuddyFiles that refuses a 513th call: what that one answers is free, so no test may ask for it. */
final class Counted {
    private static final int CALLS = 512;

    private final BuddyFiles files = new BuddyFiles();
    private int calls = 0;

    private BuddyFiles next() {
        calls++;
        if (calls > CALLS) {
            throw new IllegalStateException("the test makes more than " + CALLS + " calls on one object");
        }
        return files;
    }

    /** How many more calls the object may be asked for. */
    int callsLeft() {
        return CALLS - calls;
    }

    void format() {
        next().format();
    }

    int create(int name, int owner) {
        return next().create(name, owner);
    }

    int unlink(int name) {
        return next().unlink(name);
    }

    int open(int name) {
        return next().open(name);
    }

    int close(int handle) {
        return next().close(handle);
    }

    int write(int handle, int position, int word) {
        return next().write(handle, position, word);
    }

    int read(int handle, int position) {
        return next().read(handle, position);
    }

    int truncate(int handle, int length) {
        return next().truncate(handle, length);
    }

    int length(int handle) {
        return next().length(handle);
    }

    int extent(int handle, int k) {
        return next().extent(handle, k);
    }

    int rename(int from, int to) {
        return next().rename(from, to);
    }

    int setQuota(int owner, int blocks) {
        return next().setQuota(owner, blocks);
    }

    int usage(int owner) {
        return next().usage(owner);
    }

    int free(int order) {
        return next().free(order);
    }

    int sync() {
        return next().sync();
    }

    boolean crashAfter(int n) {
        return next().crashAfter(n);
    }

    int mount() {
        return next().mount();
    }

    boolean corrupt(int cell, int word) {
        return next().corrupt(cell, word);
    }

    int fsck() {
        return next().fsck();
    }

    int peek(int cell) {
        return next().peek(cell);
    }
}
