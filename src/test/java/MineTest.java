/** Promise 10: mine. */
public final class MineTest {
    private static final Checks CHECKS = new Checks();
    private static final int REFUSED = ChainNode.REFUSED;

    public static void main(String[] args) {
        ordinary();
        wrongNumbers();
        overADraft();
        moreThanThree();
        orphansFollow();
        CHECKS.end();
    }

    private static void ordinary() {
        ChainNode x = new ChainNode();
        CHECKS.due("10: an empty pool", x.mine(23, 15, 1), 0);
        CHECKS.due("10: the tip", x.tip(), 23);
        CHECKS.due("10: the work", x.count(1), 15);
        CHECKS.due("10: the coinbase", x.unspent(55, 0), 50);
        x.mine(1, 1, 1);
        CHECKS.due("10: on the tip", x.at(1), 23);
        Calls.pay(x, 0, 32, 0, 43);
        Calls.split(x, 1, 55, 0, 10, 29);
        x.offer(0);
        x.offer(1);
        CHECKS.due("10: two transactions", x.mine(2, 3, 0x6B), 2);
        CHECKS.due("10: 50 and the fees", x.unspent(34, 0), 50 + 7 + 11);
        CHECKS.due("10: the sum", x.count(4), 200);
        CHECKS.due("10: the weight", x.count(1), 19);
        CHECKS.due("10: the pool is empty", x.count(3), 0);
        x.mine(3, 1, 1);
        x.input(2, 34, 0, 1);
        x.output(2, 1, 1);
        x.seal(2);
        CHECKS.due("10: the lock", x.offer(2), false);
        x.input(3, 34, 0, 2);
        x.output(3, 1, 1);
        x.seal(3);
        CHECKS.due("10: the lock has its witness", x.offer(3), true);
    }

    private static void wrongNumbers() {
        ChainNode x = new ChainNode();
        CHECKS.due("10: the genesis", x.mine(0, 1, 1), REFUSED);
        CHECKS.due("10: block -1", x.mine(-1, 1, 1), REFUSED);
        CHECKS.due("10: block 24", x.mine(24, 1, 1), REFUSED);
        CHECKS.due("10: work 0", x.mine(1, 0, 1), REFUSED);
        CHECKS.due("10: work -1", x.mine(1, -1, 1), REFUSED);
        CHECKS.due("10: work 16", x.mine(1, 16, 1), REFUSED);
        CHECKS.due("10: nothing happened", x.tip(), 0);
        CHECKS.due("10: no draft was made", x.submit(1), REFUSED);
        x.mine(1, 1, 1);
        CHECKS.due("10: mined before", x.mine(1, 1, 1), REFUSED);
        Calls.send(x, 2, 9, 1);
        CHECKS.due("10: submitted before", x.mine(2, 1, 1), REFUSED);
        CHECKS.due("10: a mined one is no draft", x.submit(1), REFUSED);
    }

    private static void overADraft() {
        ChainNode x = new ChainNode();
        Calls.mineAll(x, 1, 1);
        x.seal(9);
        x.block(2, 7, 3);
        x.include(2, 9);
        x.include(2, 9);
        x.reward(2, 900, Calls.NEVER);
        x.mine(2, 99, 1);
        CHECKS.due("17: a refused call leaves the draft", x.include(2, 9), 3);
        Calls.pay(x, 0, 32, 0, 50);
        x.offer(0);
        CHECKS.due("10: the draft's content is gone", x.mine(2, 1, 1), 1);
        CHECKS.due("10: the tip", x.tip(), 2);
        CHECKS.due("10: the amount", x.unspent(34, 0), 50);
        x.mine(3, 1, 1);
        Calls.pay(x, 1, 34, 0, 50);
        CHECKS.due("10: the lock", x.offer(1), true);
    }

    private static void moreThanThree() {
        ChainNode x = new ChainNode();
        Calls.mineAll(x, 1, 2);
        Calls.pay(x, 10, 32, 0, 49);
        Calls.pay(x, 9, 10, 0, 47);
        Calls.pay(x, 8, 9, 0, 43);
        Calls.pay(x, 7, 8, 0, 35);
        Calls.pay(x, 6, 33, 0, 50);
        int[] all = {10, 9, 8, 7, 6};
        for (int transaction : all) {
            CHECKS.due("5: offered " + transaction, x.offer(transaction), true);
        }
        CHECKS.due("10: three", x.mine(3, 1, 1), 3);
        CHECKS.due("10: the fees of three", x.unspent(35, 0), 57);
        CHECKS.due("16: the third is in", x.depth(8), 1);
        CHECKS.due("16: the fourth is not", x.depth(7), 0);
        CHECKS.due("15: it waits", x.pooled(0), 7);
        CHECKS.due("15: and the fifth", x.pooled(1), 6);
        CHECKS.due("10: the rest", x.mine(4, 1, 1), 2);
        CHECKS.due("12: the sum", x.count(4), 250);
    }

    /** A mined block may be the parent that an orphan waits for. */
    private static void orphansFollow() {
        ChainNode x = new ChainNode();
        Calls.mineAll(x, 1, 2);
        Calls.pay(x, 0, 32, 0, 50);
        Calls.pay(x, 1, 0, 0, 50);
        x.offer(0);
        Calls.send(x, 9, 8, 1, 1);
        CHECKS.due("10: its own transactions are answered", x.mine(8, 1, 1), 1);
        CHECKS.due("10: the orphan is the tip", x.tip(), 9);
        CHECKS.due("16: the orphan's", x.depth(1), 1);
        CHECKS.due("16: the mined one's", x.depth(0), 2);
    }
}
