/** Promises 5 and 15: what fits, the pool, and what becomes of it when the tip changes. */
public final class PoolTest {
    private static final Checks CHECKS = new Checks();

    public static void main(String[] args) {
        ordinary();
        wrongNumbers();
        incomplete();
        twoInputs();
        ripeness();
        fees();
        missingOutputs();
        chainsInThePool();
        fullPool();
        extendedTip();
        sideBlocks();
        givenUpChain();
        nothingElseIsOffered();
        conflictsWithTheNewChain();
        unripeAfterTheChange();
        givenUpChainLongerThanThePool();
        pooledPlaces();
        CHECKS.end();
    }

    private static void ordinary() {
        ChainNode x = new ChainNode();
        Calls.mineAll(x, 1, 2);
        Calls.pay(x, 31, 32, 0, 50);
        CHECKS.due("5: fits", x.offer(31), true);
        CHECKS.due("15: the first", x.pooled(0), 31);
        CHECKS.due("5: it is in the pool", x.offer(31), false);
        CHECKS.due("5: added once", x.count(3), 1);
        x.mine(3, 1, 1);
        CHECKS.due("5: it is in the chain", x.offer(31), false);
        CHECKS.due("5: pool is empty", x.count(3), 0);
    }

    private static void wrongNumbers() {
        ChainNode x = new ChainNode();
        int[] numbers = {-1, 32, 33, 55, 56, Integer.MIN_VALUE, Integer.MAX_VALUE};
        for (int number : numbers) {
            CHECKS.due("5: offer " + number, x.offer(number), false);
        }
        CHECKS.due("5: pool is empty", x.count(3), 0);
    }

    private static void incomplete() {
        ChainNode x = new ChainNode();
        Calls.mineAll(x, 1, 2);
        CHECKS.due("5: empty and open", x.offer(0), false);
        x.input(0, 32, 0, 0);
        x.output(0, 50, 1);
        CHECKS.due("5: open", x.offer(0), false);
        x.seal(1);
        CHECKS.due("5: empty and sealed", x.offer(1), false);
        x.input(2, 32, 0, 0);
        x.seal(2);
        CHECKS.due("5: no output", x.offer(2), false);
        x.output(3, 1, 1);
        x.seal(3);
        CHECKS.due("5: no input", x.offer(3), false);
        x.seal(0);
        CHECKS.due("5: sealed at last", x.offer(0), true);
    }

    private static void twoInputs() {
        ChainNode x = new ChainNode();
        Calls.mineAll(x, 1, 3);
        x.input(0, 32, 0, 0);
        x.input(0, 32, 0, 1);
        x.output(0, 50, 1);
        x.seal(0);
        CHECKS.due("5: the same output twice", x.offer(0), false);
        x.input(1, 32, 0, 0);
        x.input(1, 33, 1, 1);
        x.output(1, 50, 1);
        x.seal(1);
        CHECKS.due("5: a coinbase has one output", x.offer(1), false);
        x.input(2, 32, 0, 0);
        x.input(2, 33, 0, 0);
        x.output(2, 99, 1);
        x.seal(2);
        CHECKS.due("5: two outputs", x.offer(2), true);
        Calls.pay(x, 3, 33, 0, 1);
        CHECKS.due("5: spent in the pool", x.offer(3), false);
        x.mine(4, 1, 1);
        CHECKS.due("5: spent in the chain", x.offer(3), false);
        ChainNode y = new ChainNode();
        y.mine(1, 1, Calls.NEVER);
        Calls.mineAll(y, 2, 3);
        y.input(0, 32, 0, 0);
        y.input(0, 33, 0, 0);
        y.output(0, 1, 1);
        y.seal(0);
        CHECKS.due("5: the second input is not opened", y.offer(0), false);
        y.input(1, 33, 0, 0);
        y.input(1, 32, 0, 0);
        y.output(1, 1, 1);
        y.seal(1);
        CHECKS.due("5: the first input is not opened", y.offer(1), false);
    }

    private static void ripeness() {
        ChainNode x = new ChainNode();
        Calls.pay(x, 0, 32, 0, 50);
        CHECKS.due("5: height 1, coinbase of 0", x.offer(0), false);
        x.mine(1, 1, 1);
        CHECKS.due("5: height 2, coinbase of 0", x.offer(0), true);
        Calls.pay(x, 1, 33, 0, 50);
        CHECKS.due("5: height 2, coinbase of 1", x.offer(1), false);
        x.mine(2, 1, 1);
        CHECKS.due("5: height 3, coinbase of 1", x.offer(1), true);
        Calls.pay(x, 2, 0, 0, 50);
        CHECKS.due("5: an output of a transaction is ripe at once", x.offer(2), true);
    }

    private static void fees() {
        ChainNode x = new ChainNode();
        Calls.mineAll(x, 1, 3);
        Calls.pay(x, 0, 32, 0, 51);
        CHECKS.due("5: more out than in", x.offer(0), false);
        Calls.split(x, 1, 32, 0, 25, 26);
        CHECKS.due("5: more out than in, by both outputs", x.offer(1), false);
        Calls.split(x, 2, 32, 0, 25, 25);
        CHECKS.due("5: as much out as in", x.offer(2), true);
        x.input(3, 33, 0, 0);
        x.input(3, 34, 0, 0);
        x.output(3, 100, 1);
        x.output(3, 1, 1);
        x.seal(3);
        CHECKS.due("5: more out than both in", x.offer(3), false);
    }

    private static void missingOutputs() {
        ChainNode x = new ChainNode();
        Calls.mineAll(x, 1, 3);
        Calls.pay(x, 0, 0, 0, 1);
        CHECKS.due("5: its own output", x.offer(0), false);
        Calls.pay(x, 1, 32, 0, 50);
        Calls.pay(x, 2, 1, 0, 50);
        CHECKS.due("5: an output that is in no block and not in the pool", x.offer(2), false);
        Calls.pay(x, 3, 40, 0, 1);
        CHECKS.due("5: the coinbase of no block", x.offer(3), false);
        x.block(9, 1, 1);
        x.submit(9);
        Calls.pay(x, 4, 41, 0, 1);
        CHECKS.due("5: the coinbase of a block beside the chain", x.offer(4), false);
        x.offer(1);
        x.input(5, 1, 0, 0);
        x.input(5, 1, 1, 1);
        x.output(5, 1, 1);
        x.seal(5);
        CHECKS.due("5: a place without an output", x.offer(5), false);
    }

    private static void chainsInThePool() {
        ChainNode x = new ChainNode();
        Calls.mineAll(x, 1, 2);
        Calls.split(x, 0, 32, 0, 20, 30);
        Calls.pay(x, 1, 0, 1, 30);
        Calls.pay(x, 2, 1, 0, 30);
        CHECKS.due("5: not before the one it spends", x.offer(1), false);
        CHECKS.due("5: first", x.offer(0), true);
        CHECKS.due("5: spends one of the pool", x.offer(1), true);
        CHECKS.due("5: spends that one", x.offer(2), true);
        CHECKS.due("5: unspent is of the chain alone", x.unspent(2, 0), 0);
        CHECKS.due("5: spent in the pool alone", x.unspent(32, 0), 50);
        CHECKS.due("10: all three in order", x.mine(3, 1, 1), 3);
        CHECKS.due("5: spent inside the block", x.unspent(1, 0), 0);
        CHECKS.due("5: made inside the block", x.unspent(2, 0), 30);
    }

    private static void fullPool() {
        ChainNode x = new ChainNode();
        Calls.mineAll(x, 1, 2);
        Calls.payOn(x, 0, 9);
        for (int i = 0; i < 8; i++) {
            CHECKS.due("5: number " + i, x.offer(i), true);
        }
        CHECKS.due("5: a ninth", x.offer(8), false);
        CHECKS.due("5: eight", x.count(3), 8);
        CHECKS.due("15: the last", x.pooled(7), 7);
        CHECKS.due("15: no ninth", x.pooled(8), ChainNode.REFUSED);
        x.mine(3, 1, 1);
        CHECKS.due("5: now there is room", x.offer(8), true);
        CHECKS.due("15: the places move up", x.pooled(0), 3);
        CHECKS.due("15: at the end", x.pooled(5), 8);
    }

    /** A pool is tried anew at the new height even when the chain only grows. */
    private static void extendedTip() {
        ChainNode x = new ChainNode();
        x.mine(1, 1, 0x6A);
        Calls.mineAll(x, 2, 3);
        x.input(0, 33, 0, 4);
        x.output(0, 50, 1);
        x.seal(0);
        Calls.pay(x, 1, 0, 0, 50);
        Calls.pay(x, 2, 32, 0, 50);
        CHECKS.due("5: good for height 4", x.offer(0), true);
        CHECKS.due("5: spends that", x.offer(1), true);
        CHECKS.due("5: good at every height", x.offer(2), true);
        Calls.send(x, 4, 3, 1);
        CHECKS.due("5: one is left at height 5", x.count(3), 1);
        CHECKS.due("15: which", x.pooled(0), 2);
    }

    /** A block beside the chain neither spends nor makes anything for the pool. */
    private static void sideBlocks() {
        ChainNode x = new ChainNode();
        Calls.mineAll(x, 1, 3);
        Calls.pay(x, 1, 32, 0, 50);
        Calls.pay(x, 2, 32, 0, 49);
        Calls.pay(x, 3, 1, 0, 50);
        CHECKS.due("9: beside the chain", Calls.send(x, 9, 2, 1, 1), 0);
        CHECKS.due("5: made beside the chain", x.offer(3), false);
        CHECKS.due("5: spent beside the chain", x.offer(2), true);
    }

    private static void givenUpChain() {
        ChainNode x = new ChainNode();
        Calls.mineAll(x, 1, 3);
        Calls.pay(x, 7, 32, 0, 50);
        Calls.pay(x, 6, 33, 0, 50);
        Calls.pay(x, 5, 7, 0, 50);
        Calls.pay(x, 4, 5, 0, 50);
        Calls.pay(x, 3, 34, 0, 50);
        Calls.send(x, 4, 3, 1, 7, 6);
        Calls.send(x, 5, 4, 1, 5);
        CHECKS.due("5: pool before", x.offer(4), true);
        CHECKS.due("5: pool before, second", x.offer(3), true);
        CHECKS.due("9: the heavier chain takes over", Calls.send(x, 6, 2, 9), 1);
        CHECKS.due("5: the lowest block first", x.pooled(0), 7);
        CHECKS.due("5: in the block's order", x.pooled(1), 6);
        CHECKS.due("5: the higher block next", x.pooled(2), 5);
        CHECKS.due("5: the pool after the blocks", x.pooled(3), 4);
        CHECKS.due("5: in the pool's order", x.pooled(4), 3);
        CHECKS.due("5: and no more", x.count(3), 5);
    }

    /** Only what was in a block or the pool is offered, not all that would fit. */
    private static void nothingElseIsOffered() {
        ChainNode x = new ChainNode();
        Calls.mineAll(x, 1, 3);
        Calls.pay(x, 0, 32, 0, 50);
        Calls.pay(x, 1, 33, 0, 50);
        Calls.send(x, 4, 3, 1, 1);
        Calls.send(x, 5, 3, 9);
        CHECKS.due("5: of the given up block", x.pooled(0), 1);
        CHECKS.due("5: nothing else", x.count(3), 1);
        CHECKS.due("5: though it fits", x.offer(0), true);
    }

    private static void conflictsWithTheNewChain() {
        ChainNode y = new ChainNode();
        Calls.mineAll(y, 1, 3);
        Calls.pay(y, 0, 32, 0, 50);
        Calls.pay(y, 1, 32, 0, 49);
        Calls.send(y, 4, 3, 1, 0);
        Calls.send(y, 5, 3, 2, 1);
        CHECKS.due("5: the new chain has spent it", y.count(3), 0);
        Calls.send(y, 6, 4, 9);
        CHECKS.due("5: and back", y.count(3), 0);
        Calls.send(y, 7, 3, 15);
        CHECKS.due("5: of the given up block", y.pooled(0), 0);
        Calls.send(y, 8, 7, 15, 1);
        CHECKS.due("5: spent by another", y.count(3), 0);
    }

    private static void unripeAfterTheChange() {
        ChainNode x = new ChainNode();
        Calls.mineAll(x, 1, 3);
        Calls.pay(x, 0, 34, 0, 50);
        Calls.pay(x, 1, 33, 0, 50);
        CHECKS.due("5: ripe at height 4", x.offer(0), true);
        CHECKS.due("5: ripe at height 3 too", x.offer(1), true);
        Calls.send(x, 9, 1, 15);
        CHECKS.due("5: the coinbase of 2 is given up", x.pooled(0), 1);
        CHECKS.due("5: one is left", x.count(3), 1);
        Calls.send(x, 10, 0, 15);
        CHECKS.due("9: lighter", x.tip(), 9);
        Calls.send(x, 11, 10, 15);
        CHECKS.due("5: nothing is left", x.count(3), 0);
    }

    /** What is given up goes before the pool, and what finds no room is gone. */
    private static void givenUpChainLongerThanThePool() {
        ChainNode x = new ChainNode();
        Calls.mineAll(x, 1, 2);
        Calls.payOn(x, 10, 12);
        Calls.send(x, 3, 2, 1, 10, 11, 12);
        Calls.send(x, 4, 3, 1, 13, 14, 15);
        for (int i = 16; i < 20; i++) {
            CHECKS.due("5: offered", x.offer(i), true);
        }
        Calls.send(x, 5, 2, 15);
        CHECKS.due("5: eight again", x.count(3), 8);
        for (int i = 0; i < 8; i++) {
            CHECKS.due("15: place " + i, x.pooled(i), 10 + i);
        }
        x.mine(6, 1, 1);
        CHECKS.due("5: what found no room does not come back", x.count(3), 5);
    }

    private static void pooledPlaces() {
        ChainNode x = new ChainNode();
        CHECKS.due("15: empty", x.pooled(0), ChainNode.REFUSED);
        Calls.mineAll(x, 1, 2);
        Calls.pay(x, 9, 32, 0, 50);
        x.offer(9);
        CHECKS.due("15: place 0", x.pooled(0), 9);
        CHECKS.due("15: place 1", x.pooled(1), ChainNode.REFUSED);
        CHECKS.due("15: place -1", x.pooled(-1), ChainNode.REFUSED);
        CHECKS.due("15: place 8", x.pooled(8), ChainNode.REFUSED);
        CHECKS.due("15: smallest", x.pooled(Integer.MIN_VALUE), ChainNode.REFUSED);
        CHECKS.due("15: greatest", x.pooled(Integer.MAX_VALUE), ChainNode.REFUSED);
    }
}
