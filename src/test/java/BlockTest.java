/** Promises 6, 7, 8 and 9: drafts, what goes into them, and which of them are good and the tip. */
public final class BlockTest {
    private static final Checks CHECKS = new Checks();
    private static final int REFUSED = ChainNode.REFUSED;

    public static void main(String[] args) {
        blocks();
        draftsMadeAnew();
        includes();
        rewards();
        submits();
        ties();
        orphans();
        earlierOrphanWinsTie();
        rings();
        coinbaseLimits();
        badTransactions();
        orderInABlock();
        childrenOfBadBlocks();
        ripenessInABlock();
        CHECKS.end();
    }

    private static void blocks() {
        ChainNode x = new ChainNode();
        CHECKS.due("6: block 1", x.block(1, 0, 1), 1);
        CHECKS.due("6: block 23, unknown parent, most work", x.block(23, 22, 15), 1);
        CHECKS.due("6: parent 23", x.block(2, 23, 15), 1);
        CHECKS.due("6: the genesis", x.block(0, 1, 1), REFUSED);
        CHECKS.due("6: block 24", x.block(24, 0, 1), REFUSED);
        CHECKS.due("6: block -1", x.block(-1, 0, 1), REFUSED);
        CHECKS.due("6: block smallest", x.block(Integer.MIN_VALUE, 0, 1), REFUSED);
        CHECKS.due("6: parent -1", x.block(3, -1, 1), REFUSED);
        CHECKS.due("6: parent 24", x.block(3, 24, 1), REFUSED);
        CHECKS.due("6: parent itself", x.block(3, 3, 1), REFUSED);
        CHECKS.due("6: work 0", x.block(3, 0, 0), REFUSED);
        CHECKS.due("6: work 16", x.block(3, 0, 16), REFUSED);
        CHECKS.due("6: nothing was made", x.submit(3), REFUSED);
        CHECKS.due("6: submitted", x.submit(1), 1);
        CHECKS.due("6: not after that", x.block(1, 0, 1), REFUSED);
        CHECKS.due("6: a draft is not submitted", x.count(2), 0);
        CHECKS.due("6: the coinbase has 50", x.unspent(33, 0), 50);
        CHECKS.due("6: and lock 1", spendable(x, 1), true);
        x.submit(23);
        CHECKS.due("6: not after that, though an orphan", x.block(23, 0, 1), REFUSED);
    }

    /** Whether the coinbase is opened by the witness 0, once it is ripe. */
    private static boolean spendable(ChainNode x, int block) {
        Calls.mineAll(x, 20, 21);
        Calls.pay(x, 31, 32 + block, 0, 1);
        return x.offer(31);
    }

    private static void draftsMadeAnew() {
        ChainNode x = new ChainNode();
        Calls.mineAll(x, 1, 1);
        Calls.pay(x, 0, 32, 0, 50);
        x.block(2, 5, 3);
        x.include(2, 0);
        x.include(2, 0);
        x.reward(2, 1000, Calls.NEVER);
        CHECKS.due("6: anew", x.block(2, 1, 4), 1);
        CHECKS.due("6: no transactions", x.include(2, 0), 1);
        CHECKS.due("6: the new parent", x.submit(2), 1);
        CHECKS.due("6: the new work", x.count(1), 5);
        CHECKS.due("6: the coinbase's amount", x.unspent(34, 0), 50);
        CHECKS.due("6: the coinbase's lock", spendable(x, 2), true);
        ChainNode y = new ChainNode();
        y.block(2, 0, 4);
        y.reward(2, 7, 1);
        y.block(2, 2, 4);
        y.block(2, 0, 16);
        y.submit(2);
        CHECKS.due("17: a refused making leaves the draft", y.unspent(34, 0), 7);
    }

    private static void includes() {
        ChainNode x = new ChainNode();
        x.seal(0);
        x.seal(31);
        x.block(1, 0, 1);
        CHECKS.due("7: first", x.include(1, 0), 1);
        CHECKS.due("7: the same again", x.include(1, 0), 2);
        CHECKS.due("7: not sealed", x.include(1, 1), REFUSED);
        CHECKS.due("7: third", x.include(1, 31), 3);
        CHECKS.due("7: fourth", x.include(1, 31), ChainNode.FULL);
        CHECKS.due("17: fourth, not sealed", x.include(1, 1), REFUSED);
        CHECKS.due("17: fourth, transaction 32", x.include(1, 32), REFUSED);
        CHECKS.due("7: no such block", x.include(2, 0), REFUSED);
        CHECKS.due("7: the genesis", x.include(0, 0), REFUSED);
        CHECKS.due("7: block -1", x.include(-1, 0), REFUSED);
        CHECKS.due("7: block 24", x.include(24, 0), REFUSED);
        x.block(23, 0, 1);
        CHECKS.due("7: transaction -1", x.include(23, -1), REFUSED);
        CHECKS.due("7: transaction 32", x.include(23, 32), REFUSED);
        CHECKS.due("7: transaction greatest", x.include(23, Integer.MAX_VALUE), REFUSED);
        CHECKS.due("17: nothing was added", x.include(23, 0), 1);
        x.submit(1);
        CHECKS.due("17: submitted and full", x.include(1, 0), REFUSED);
        x.submit(23);
        CHECKS.due("7: submitted", x.include(23, 0), REFUSED);
    }

    private static void rewards() {
        ChainNode x = new ChainNode();
        x.block(1, 0, 1);
        CHECKS.due("8: least", x.reward(1, 1, 0x6A), 1);
        CHECKS.due("8: amount 0", x.reward(1, 0, 1), REFUSED);
        CHECKS.due("8: amount 1001", x.reward(1, 1001, 1), REFUSED);
        CHECKS.due("8: amount smallest", x.reward(1, Integer.MIN_VALUE, 1), REFUSED);
        CHECKS.due("8: no such block", x.reward(2, 50, 1), REFUSED);
        CHECKS.due("8: the genesis", x.reward(0, 50, 1), REFUSED);
        CHECKS.due("8: block 24", x.reward(24, 50, 1), REFUSED);
        CHECKS.due("8: block -1", x.reward(-1, 50, 1), REFUSED);
        x.submit(1);
        CHECKS.due("8: submitted", x.reward(1, 50, 1), REFUSED);
        CHECKS.due("8: the amount", x.unspent(33, 0), 1);
        x.mine(2, 1, 1);
        x.input(0, 33, 0, 4);
        x.output(0, 1, 1);
        x.seal(0);
        CHECKS.due("8: the lock asks for 3", x.offer(0), false);
        x.input(1, 33, 0, 3);
        x.output(1, 1, 1);
        x.seal(1);
        CHECKS.due("8: the lock has 3", x.offer(1), true);
        x.block(23, 0, 1);
        CHECKS.due("8: greatest", x.reward(23, 1000, 1), 1);
    }

    private static void submits() {
        ChainNode x = new ChainNode();
        CHECKS.due("9: no such block", x.submit(1), REFUSED);
        CHECKS.due("9: the genesis", x.submit(0), REFUSED);
        CHECKS.due("9: block -1", x.submit(-1), REFUSED);
        CHECKS.due("9: block 24", x.submit(24), REFUSED);
        CHECKS.due("9: a new tip", Calls.send(x, 1, 0, 2), 1);
        CHECKS.due("9: twice", x.submit(1), REFUSED);
        CHECKS.due("9: lighter", Calls.send(x, 2, 0, 1), 0);
        CHECKS.due("11: the tip", x.tip(), 1);
        CHECKS.due("9: heavier though no higher", Calls.send(x, 3, 0, 3), 1);
        CHECKS.due("11: the tip", x.tip(), 3);
        CHECKS.due("9: higher but lighter", Calls.send(x, 4, 2, 1), 0);
        CHECKS.due("9: heavier by the sum", Calls.send(x, 5, 4, 2), 1);
        CHECKS.due("12: height", x.count(0), 3);
        CHECKS.due("12: weight", x.count(1), 4);
    }

    private static void ties() {
        ChainNode x = new ChainNode();
        Calls.send(x, 9, 0, 5);
        CHECKS.due("9: as heavy, submitted later, lower number", Calls.send(x, 3, 0, 5), 0);
        CHECKS.due("11: the first stays", x.tip(), 9);
        CHECKS.due("9: as heavy, submitted later, higher number", Calls.send(x, 11, 0, 5), 0);
        CHECKS.due("11: the first stays still", x.tip(), 9);
        x.block(1, 0, 6);
        x.block(2, 0, 6);
        x.submit(2);
        x.submit(1);
        CHECKS.due("9: the submission counts, not the making", x.tip(), 2);
    }

    private static void orphans() {
        ChainNode x = new ChainNode();
        CHECKS.due("9: an orphan", Calls.send(x, 3, 2, 1), 0);
        CHECKS.due("9: its parent, an orphan too", Calls.send(x, 2, 1, 1), 0);
        CHECKS.due("12: two wait", x.count(2), 2);
        x.block(1, 0, 1);
        CHECKS.due("12: a draft connects nothing", x.count(2), 2);
        CHECKS.due("9: all connect", x.submit(1), 1);
        CHECKS.due("12: none waits", x.count(2), 0);
        CHECKS.due("11: the last", x.tip(), 3);
        CHECKS.due("12: height", x.count(0), 3);
        CHECKS.due("13: middle", x.at(2), 2);
        Calls.send(x, 10, 9, 1);
        Calls.send(x, 11, 9, 4);
        Calls.send(x, 12, 10, 2);
        CHECKS.due("9: a tree connects", Calls.send(x, 9, 3, 1), 1);
        CHECKS.due("11: the heaviest of the tree", x.tip(), 11);
        CHECKS.due("9: the other branch", Calls.send(x, 13, 12, 2), 1);
    }

    private static void earlierOrphanWinsTie() {
        ChainNode x = new ChainNode();
        Calls.send(x, 5, 4, 1);
        Calls.send(x, 3, 0, 2);
        CHECKS.due("11: alone", x.tip(), 3);
        CHECKS.due("9: as heavy, and the orphan was submitted first", Calls.send(x, 4, 0, 1), 1);
        CHECKS.due("11: so it is the tip", x.tip(), 5);
    }

    private static void rings() {
        ChainNode x = new ChainNode();
        Calls.send(x, 1, 2, 1);
        Calls.send(x, 2, 3, 1);
        CHECKS.due("9: a ring of three", Calls.send(x, 3, 1, 1), 0);
        CHECKS.due("12: never connected", x.count(2), 3);
        CHECKS.due("11: the genesis", x.tip(), 0);
        CHECKS.due("10: it still mines", x.mine(4, 1, 1), 0);
        CHECKS.due("12: the ring waits", x.count(2), 3);
    }

    private static void coinbaseLimits() {
        ChainNode x = new ChainNode();
        Calls.mineAll(x, 1, 2);
        Calls.pay(x, 0, 32, 0, 47);
        Calls.split(x, 1, 33, 0, 20, 25);
        x.block(3, 2, 1);
        x.reward(3, 51, 1);
        CHECKS.due("9: 51 without fees", x.submit(3), 0);
        x.block(4, 2, 1);
        x.include(4, 0);
        x.include(4, 1);
        x.reward(4, 59, 1);
        CHECKS.due("9: 59 with fees 8", x.submit(4), 0);
        x.block(5, 2, 1);
        x.include(5, 0);
        x.include(5, 1);
        x.reward(5, 58, 1);
        CHECKS.due("9: 58 with fees 8", x.submit(5), 1);
        CHECKS.due("12: the sum is as it was", x.count(4), 4 * 50);
        Calls.send(x, 6, 5, 1);
        x.block(7, 6, 1);
        x.reward(7, 1, 1);
        CHECKS.due("9: less is good", x.submit(7), 1);
        CHECKS.due("12: the rest is not made", x.count(4), 5 * 50 + 1);
    }

    private static void badTransactions() {
        ChainNode x = new ChainNode();
        Calls.mineAll(x, 1, 2);
        Calls.pay(x, 0, 32, 0, 50);
        Calls.pay(x, 1, 32, 0, 49);
        Calls.pay(x, 2, 33, 0, 51);
        x.seal(3);
        CHECKS.due("9: twice in a block", Calls.send(x, 3, 2, 1, 0, 0), 0);
        CHECKS.due("9: two that spend the same", Calls.send(x, 4, 2, 1, 0, 1), 0);
        CHECKS.due("9: spends too much", Calls.send(x, 5, 2, 1, 0, 2), 0);
        CHECKS.due("9: an empty transaction", Calls.send(x, 6, 2, 1, 3), 0);
        CHECKS.due("9: good", Calls.send(x, 7, 2, 1, 0), 1);
        CHECKS.due("9: again in the chain", Calls.send(x, 8, 7, 1, 0), 0);
        CHECKS.due("9: spent in the chain", Calls.send(x, 9, 7, 1, 1), 0);
        CHECKS.due("9: unspent on another branch", Calls.send(x, 10, 2, 5, 1), 1);
        CHECKS.due("14: it counts", x.unspent(1, 0), 49);
        CHECKS.due("14: the other does not", x.unspent(0, 0), 0);
        CHECKS.due("12: bad ones are connected", x.count(2), 0);
    }

    private static void orderInABlock() {
        ChainNode x = new ChainNode();
        Calls.mineAll(x, 1, 2);
        Calls.pay(x, 0, 32, 0, 50);
        Calls.pay(x, 1, 0, 0, 50);
        CHECKS.due("9: spends one that comes later", Calls.send(x, 3, 2, 9, 1, 0), 0);
        CHECKS.due("9: spends one that comes before", Calls.send(x, 4, 2, 1, 0, 1), 1);
    }

    private static void childrenOfBadBlocks() {
        ChainNode x = new ChainNode();
        x.block(1, 0, 15);
        x.reward(1, 51, 1);
        x.submit(1);
        CHECKS.due("9: a child of a bad block", Calls.send(x, 2, 1, 15), 0);
        CHECKS.due("9: its child", Calls.send(x, 3, 2, 15), 0);
        CHECKS.due("12: connected all the same", x.count(2), 0);
        CHECKS.due("11: no tip", x.tip(), 0);
        Calls.send(x, 5, 4, 15);
        x.block(4, 0, 15);
        x.reward(4, 51, 1);
        CHECKS.due("9: an orphan of a bad block", x.submit(4), 0);
        CHECKS.due("9: a good one", Calls.send(x, 6, 0, 1), 1);
    }

    private static void ripenessInABlock() {
        ChainNode x = new ChainNode();
        Calls.pay(x, 0, 32, 0, 50);
        Calls.pay(x, 1, 33, 0, 50);
        Calls.pay(x, 2, 34, 0, 50);
        CHECKS.due("9: height 1, coinbase of height 0", Calls.send(x, 5, 0, 15, 0), 0);
        x.mine(1, 1, 1);
        CHECKS.due("9: its own coinbase", Calls.send(x, 2, 1, 15, 2), 0);
        CHECKS.due("9: height 2, coinbase of height 1", Calls.send(x, 6, 1, 15, 1), 0);
        CHECKS.due("9: height 2, coinbase of height 0", Calls.send(x, 7, 1, 1, 0), 1);
        CHECKS.due("9: height 3, coinbase of height 1", Calls.send(x, 8, 7, 1, 1), 1);
    }
}
