/** Short ways to bring a node into a state. */
final class Calls {
    /** Pushes 1: opened by every witness. */
    static final int FREE = 0x1;
    /** Pushes 1 and turns it into 0: opened by no witness. */
    static final int NEVER = 0xD1;

    private Calls() {
    }

    /** A sealed transaction with one input and one output that is free to spend. */
    static void pay(ChainNode x, int transaction, int from, int place, int amount) {
        x.input(transaction, from, place, 0);
        x.output(transaction, amount, FREE);
        x.seal(transaction);
    }

    /** A sealed transaction with one input and two free outputs. */
    static void split(ChainNode x, int transaction, int from, int place, int first, int second) {
        x.input(transaction, from, place, 0);
        x.output(transaction, first, FREE);
        x.output(transaction, second, FREE);
        x.seal(transaction);
    }

    /** Mines blocks first .. last, each of work 1. */
    static void mineAll(ChainNode x, int first, int last) {
        for (int block = first; block <= last; block++) {
            x.mine(block, 1, FREE);
        }
    }

    /** Makes and submits a block with the transactions given. */
    static int send(ChainNode x, int block, int parent, int work, int... transactions) {
        x.block(block, parent, work);
        for (int transaction : transactions) {
            x.include(block, transaction);
        }
        return x.submit(block);
    }

    /** A digest of most answers that a node gives without changing, in 141 calls. */
    static long digest(ChainNode x) {
        long sum = x.tip();
        for (int what = 0; what <= 4; what++) {
            sum = 31 * sum + x.count(what);
        }
        for (int height = 0; height <= 14; height++) {
            sum = 31 * sum + x.at(height);
        }
        for (int transaction = 0; transaction <= 55; transaction++) {
            sum = 31 * sum + x.unspent(transaction, 0);
            sum = 31 * sum + x.depth(transaction);
        }
        for (int place = 0; place <= 7; place++) {
            sum = 31 * sum + x.pooled(place);
        }
        return sum;
    }
}
