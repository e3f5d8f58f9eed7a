/** Short ways to bring a node into a state. */
final class Calls {
    /** Pushes 1: opened by every witness. */
    static final int FREE = 0x1;
    /** Pushes 1 and turns it into 0: opened by no witness. */
    static final int NEVER = 0xD1;

    private Calls() {
    }

    /** A sealed transaction with one input and one output that is free to spend. */
    static void pay(ChainNode x, int transaction, int from, int place, int amount) {
        x.input(transaction, from, place, 0);
        x.output(transaction, amount, FREE);
        x.seal(transaction);
    }

    /** A sealed transaction with one input and two free outputs. */
    static void split(ChainNode x, int transaction, int from, int place, int first, int second) {
        x.input(transaction, from, place, 0);
        x.output(transaction, first, FREE);
        x.output(transaction, second, FREE);
        x.seal(transaction);
    }

    /** A sealed transaction with one input that has this witness, and one free output. */
    static void spend(ChainNode x, int transaction, int from, int witness, int amount) {
        x.input(transaction, from, 0, witness);
        x.output(transaction, amount, FREE);
        x.seal(transaction);
    }

    /** A sealed transaction that joins two outputs, each at place 0, in a free one. */
    static void join(ChainNode x, int transaction, int first, int second, int amount) {
        x.input(transaction, first, 0, 0);
        x.input(transaction, second, 0, 0);
        x.output(transaction, amount, FREE);
        x.seal(transaction);
    }

    /** Transactions first .. first + number - 1: the first spends the genesis' coinbase, each other the one before. */
    static void payOn(ChainNode x, int first, int number) {
        pay(x, first, 32, 0, 50);
        for (int i = 1; i < number; i++) {
            pay(x, first + i, first + i - 1, 0, 50);
        }
    }

    /** Blocks 1 .. 21 on the genesis, and the coinbases of 0 .. 19 joined in transaction 18: it has 1000. */
    static void gatherThousand(ChainNode x) {
        mineAll(x, 1, 2);
        join(x, 0, 32, 33, 100);
        for (int tip = 2; tip <= 20; tip++) {
            if (tip > 2) {
                join(x, tip - 2, tip - 3, 31 + tip, 50 * tip);
            }
            x.offer(tip - 2);
            x.mine(tip + 1, 1, FREE);
        }
    }

    /** Numbers outside least .. most: next to it, far off, and such as narrowing or multiplying would bring back in. */
    static int[] outside(int least, int most) {
        return new int[] {
            least - 1, least - 2, least - 100, most + 1, most + 2, most + 100,
            Integer.MIN_VALUE, Integer.MIN_VALUE + least, Integer.MIN_VALUE + most, Integer.MAX_VALUE, Integer.MAX_VALUE - 1,
            (1 << 16) + least, (1 << 16) + most, (1 << 30) + least, (1 << 30) + most, 0x55555556, 0xAAAAAAAB};
    }

    /** Mines blocks first .. last, each of work 1. */
    static void mineAll(ChainNode x, int first, int last) {
        for (int block = first; block <= last; block++) {
            x.mine(block, 1, FREE);
        }
    }

    /** Makes and submits a block with the transactions given. */
    static int send(ChainNode x, int block, int parent, int work, int... transactions) {
        x.block(block, parent, work);
        for (int transaction : transactions) {
            x.include(block, transaction);
        }
        return x.submit(block);
    }

    /** A digest of most answers that a node gives without changing, in 141 calls. */
    static long digest(ChainNode x) {
        long sum = x.tip();
        for (int what = 0; what <= 4; what++) {
            sum = 31 * sum + x.count(what);
        }
        for (int height = 0; height <= 14; height++) {
            sum = 31 * sum + x.at(height);
        }
        for (int transaction = 0; transaction <= 55; transaction++) {
            sum = 31 * sum + x.unspent(transaction, 0);
            sum = 31 * sum + x.depth(transaction);
        }
        for (int place = 0; place <= 7; place++) {
            sum = 31 * sum + x.pooled(place);
        }
        return sum;
    }
}
