/** Sentence by sentence: connected and good blocks, the tip, and the pool before and after the tip changes. */
public final class EdgeChainTest {
    private static final Checks CHECKS = new Checks();
    private static final int REFUSED = ChainNode.REFUSED;

    public static void main(String[] args) {
        CHECKS.sentence("Terms", "A submitted block is CONNECTED if it is the genesis or its parent is connected.", EdgeChainTest::connected);
        CHECKS.sentence("Terms", "its HEIGHT is its parent's height + 1", EdgeChainTest::heights);
        CHECKS.sentence("Terms", "its WEIGHT the sum of the works of its chain.", EdgeChainTest::weights);
        CHECKS.sentence("Terms", "A connected block is GOOD if it is the genesis, or its parent is good", EdgeChainTest::goodParents);
        CHECKS.sentence("Terms", "each of its transactions fits after its parent's chain and the transactions before it in the block",
            EdgeChainTest::goodTransactions);
        CHECKS.sentence("Terms", "at its height", EdgeChainTest::atItsHeight);
        CHECKS.sentence("Terms", "its coinbase's amount is not more than 50 + the fees of its transactions.", EdgeChainTest::goodCoinbases);
        CHECKS.sentence("Terms", "THE TIP is the good block of the greatest weight", EdgeChainTest::greatestWeight);
        CHECKS.sentence("Terms", "of several the one submitted first.", EdgeChainTest::submittedFirst);
        CHECKS.sentence("Terms", "THE CHAIN is the tip's chain.", EdgeChainTest::tipsChain);
        CHECKS.sentence("Terms", "THE POOL is a list of at most 8 transactions", EdgeChainTest::atMostEight);
        CHECKS.sentence("Terms", "empty at first.", EdgeChainTest::poolIsEmptyAtFirst);
        CHECKS.sentence("Terms", "if T fits after the chain and the transactions of the pool, at the tip's height + 1", EdgeChainTest::offers);
        CHECKS.sentence("Terms", "and the pool has less than 8, T is added at its end", EdgeChainTest::lessThanEight);
        CHECKS.sentence("Terms", "else nothing happens.", EdgeChainTest::elseNothing);
        CHECKS.sentence("Terms", "When the tip changes, the pool is emptied and these are offered one by one", EdgeChainTest::offeredAnew);
        CHECKS.sentence("Terms", "the transactions of the blocks that were in the chain before and are not now", EdgeChainTest::ofBlocksGivenUp);
        CHECKS.sentence("Terms", "from the lowest block up, in their order in the block", EdgeChainTest::lowestBlockFirst);
        CHECKS.sentence("Terms", "then those that were in the pool, in their order.", EdgeChainTest::thenThePool);
        CHECKS.end();
    }

    private static void due(String what, long got, long want) {
        CHECKS.due(what, got, want);
    }

    private static void due(String what, boolean got, boolean want) {
        CHECKS.due(what, got, want);
    }

    private static void duePool(String what, ChainNode x, int... transactions) {
        due(what + ": how many", x.count(3), transactions.length);
        for (int place = 0; place < transactions.length; place++) {
            due(what + ": place " + place, x.pooled(place), transactions[place]);
        }
        due(what + ": no more", x.pooled(transactions.length), REFUSED);
    }

    private static void connected() {
        ChainNode x = new ChainNode();
        Calls.send(x, 1, 2, 1);
        due("its parent is not made", x.count(2), 1);
        x.block(2, 3, 1);
        due("its parent is a draft", x.count(2), 1);
        x.submit(2);
        due("its parent is not connected", x.count(2), 2);
        Calls.send(x, 4, 1, 1);
        due("nor its parent's parent", x.count(2), 3);
        Calls.send(x, 5, 6, 1);
        Calls.send(x, 6, 5, 1);
        due("two that are each other's parents", x.count(2), 5);
        due("the last link", Calls.send(x, 3, 0, 1), 1);
        due("all that hang on it are connected", x.count(2), 2);
        due("height of the last", x.count(0), 4);
        x.block(7, 0, 15);
        x.reward(7, 51, 1);
        x.submit(7);
        Calls.send(x, 8, 7, 1);
        due("on a block that is not good", x.count(2), 2);
        longestWait();
    }

    /** All 23 blocks wait for the one that is submitted last. */
    private static void longestWait() {
        ChainNode x = new ChainNode();
        for (int b = 23; b >= 2; b--) {
            Calls.send(x, b, b - 1, 15);
        }
        due("22 wait", x.count(2), 22);
        due("the genesis is the tip", x.tip(), 0);
        Calls.send(x, 1, 0, 15);
        due("none waits", x.count(2), 0);
        due("all are in the chain", x.count(0), 23);
        ChainNode y = new ChainNode();
        for (int b = 1; b <= 22; b++) {
            Calls.send(y, b, b + 1, 1);
        }
        due("22 wait, the other way round", y.count(2), 22);
        Calls.send(y, 23, 0, 1);
        due("all are in the chain, the other way round", y.at(23), 1);
    }

    private static void heights() {
        ChainNode x = new ChainNode();
        for (int b = 23; b >= 1; b--) {
            Calls.send(x, b, b == 23 ? 0 : b + 1, 1);
            due("height of " + b, x.count(0), 24 - b);
            due("above " + b, x.at(25 - b), REFUSED);
        }
        ChainNode y = new ChainNode();
        Calls.mineAll(y, 1, 5);
        Calls.send(y, 6, 2, 15);
        due("on a lower block", y.count(0), 3);
    }

    private static void weights() {
        ChainNode x = new ChainNode();
        int sum = 0;
        for (int b = 1; b <= 15; b++) {
            Calls.send(x, b, b - 1, b);
            sum += b;
            due("works 1 .. " + b, x.count(1), sum);
        }
        ChainNode y = new ChainNode();
        for (int b = 1; b <= 23; b++) {
            y.mine(b, 15, 1);
        }
        due("the greatest weight", y.count(1), 345);
        ChainNode z = new ChainNode();
        Calls.send(z, 1, 0, 3);
        Calls.send(z, 2, 1, 4);
        Calls.send(z, 3, 1, 9);
        due("of its own chain alone", z.count(1), 12);
    }

    private static void goodParents() {
        ChainNode x = new ChainNode();
        due("on the genesis", Calls.send(x, 1, 0, 1), 1);
        x.block(2, 1, 1);
        x.reward(2, 51, 1);
        due("not good", x.submit(2), 0);
        for (int b = 3; b <= 22; b++) {
            due("generation " + (b - 2), Calls.send(x, b, b - 1, 15), 0);
        }
        due("the tip is still", x.tip(), 1);
        due("they are connected", x.count(2), 0);
        due("a good one", Calls.send(x, 23, 1, 1), 1);
        ChainNode y = new ChainNode();
        Calls.send(y, 3, 2, 15);
        y.block(2, 1, 15);
        y.reward(2, 51, 1);
        y.submit(2);
        due("a chain of orphans stops at the bad one", Calls.send(y, 1, 0, 1), 1);
        due("its tip", y.tip(), 1);
    }

    private static void goodTransactions() {
        ChainNode x = new ChainNode();
        Calls.mineAll(x, 1, 2);
        Calls.payOn(x, 0, 4);
        Calls.pay(x, 4, 34, 0, 50);
        Calls.pay(x, 5, 32, 0, 50);
        x.seal(6);
        due("the first is unripe", Calls.send(x, 3, 2, 15, 4, 0), 0);
        due("the second is unripe", Calls.send(x, 4, 2, 15, 0, 4), 0);
        due("the third is unripe", Calls.send(x, 5, 2, 15, 0, 1, 4), 0);
        due("an empty one does not fit", Calls.send(x, 6, 2, 15, 6), 0);
        due("spends what comes later", Calls.send(x, 7, 2, 15, 1, 0), 0);
        due("spends what was spent before", Calls.send(x, 8, 2, 15, 0, 5), 0);
        due("the same twice", Calls.send(x, 9, 2, 15, 0, 0), 0);
        due("none: good", Calls.send(x, 10, 2, 1), 1);
        due("each spends the one before: good", Calls.send(x, 11, 2, 2, 0, 1, 2), 1);
        due("spends what its parent made: good", Calls.send(x, 12, 11, 1, 3), 1);
        due("spent in its parent's chain", Calls.send(x, 13, 12, 15, 5), 0);
        due("made in another chain", Calls.send(x, 14, 2, 15, 3), 0);
        due("not spent in its parent's chain: good", Calls.send(x, 15, 10, 15, 5), 1);
    }

    private static void atItsHeight() {
        ChainNode x = new ChainNode();
        x.mine(1, 1, 0x6A);
        Calls.mineAll(x, 2, 6);
        Calls.spend(x, 0, 33, 4, 50);
        due("height 7", Calls.send(x, 7, 6, 15, 0), 0);
        due("height 3", Calls.send(x, 8, 2, 15, 0), 0);
        due("height 5", Calls.send(x, 9, 4, 15, 0), 0);
        due("height 4", Calls.send(x, 10, 3, 15, 0), 1);
        ChainNode y = new ChainNode();
        y.mine(1, 1, 0x6A);
        Calls.mineAll(y, 2, 2);
        Calls.spend(y, 0, 33, 4, 50);
        due("an orphan", Calls.send(y, 4, 3, 1, 0), 0);
        due("its height is known once it is connected", Calls.send(y, 3, 2, 1), 1);
        due("it is good at height 4", y.tip(), 4);
    }

    private static void goodCoinbases() {
        for (int amount = 45; amount <= 70; amount++) {
            ChainNode x = new ChainNode();
            Calls.mineAll(x, 1, 3);
            Calls.pay(x, 0, 32, 0, 47);
            Calls.pay(x, 1, 33, 0, 46);
            Calls.pay(x, 2, 0, 0, 42);
            due(amount + " without fees", rewarded(x, 4, 3, amount), amount <= 50 ? 1 : 0);
            due(amount + " with the fee 3", rewarded(x, 5, 3, amount, 0), amount > 50 && amount <= 53 ? 1 : 0);
            due(amount + " with the fees 3 and 4", rewarded(x, 6, 3, amount, 0, 1), amount > 53 && amount <= 57 ? 1 : 0);
            due(amount + " with the fees 3, 4 and 5", rewarded(x, 7, 3, amount, 0, 1, 2), amount > 57 && amount <= 62 ? 1 : 0);
            due("the tip after " + amount, x.tip() > 3, amount <= 62);
        }
        ChainNode x = new ChainNode();
        due("the least amount", rewarded(x, 1, 0, 1), 1);
        ChainNode y = new ChainNode();
        Calls.gatherThousand(y);
        Calls.pay(y, 19, 18, 0, 51);
        due("1000 with the fee 949", rewarded(y, 22, 21, 1000, 19), 0);
        Calls.pay(y, 20, 18, 0, 50);
        due("1000 with the fee 950", rewarded(y, 23, 21, 1000, 20), 1);
    }

    /** Submits a block of work 1 whose coinbase has this amount. */
    private static int rewarded(ChainNode x, int block, int parent, int amount, int... transactions) {
        x.block(block, parent, 1);
        for (int transaction : transactions) {
            x.include(block, transaction);
        }
        x.reward(block, amount, 1);
        return x.submit(block);
    }

    private static void greatestWeight() {
        ChainNode x = new ChainNode();
        due("heavier than the genesis", Calls.send(x, 1, 0, 2), 1);
        due("lighter", Calls.send(x, 2, 0, 1), 0);
        due("heavier by one", Calls.send(x, 3, 0, 3), 1);
        due("higher, yet lighter", Calls.send(x, 4, 2, 1), 0);
        due("higher, as heavy", Calls.send(x, 5, 4, 1), 0);
        due("higher, heavier by one", Calls.send(x, 6, 5, 1), 1);
        due("lower, heavier", Calls.send(x, 7, 0, 15), 1);
        x.block(8, 0, 15);
        x.reward(8, 51, 1);
        x.submit(8);
        due("heavier, not good", Calls.send(x, 9, 8, 15), 0);
        due("heavier, not connected", Calls.send(x, 10, 11, 15), 0);
        x.block(12, 7, 15);
        due("heavier, a draft", x.tip(), 7);
        due("heavier by a connected orphan", Calls.send(x, 11, 0, 1), 1);
        due("the orphan", x.tip(), 10);
    }

    private static void submittedFirst() {
        for (int first = 1; first <= 23; first++) {
            ChainNode x = new ChainNode();
            Calls.send(x, first, 0, 7);
            for (int b = 1; b <= 23; b++) {
                if (b != first) {
                    due(b + " after " + first, Calls.send(x, b, 0, 7), 0);
                }
            }
            due("the tip", x.tip(), first);
        }
        ChainNode x = new ChainNode();
        x.block(1, 0, 6);
        x.block(2, 0, 6);
        x.submit(2);
        x.submit(1);
        due("made first, submitted second", x.tip(), 2);
        ChainNode y = new ChainNode();
        Calls.send(y, 5, 4, 1);
        Calls.send(y, 3, 0, 2);
        due("submitted first, connected second", Calls.send(y, 4, 0, 1), 1);
        due("it is the tip", y.tip(), 5);
        ChainNode z = new ChainNode();
        Calls.send(z, 3, 0, 2);
        Calls.send(z, 5, 4, 1);
        due("submitted second, connected second", Calls.send(z, 4, 0, 1), 0);
        due("it is not the tip", z.tip(), 3);
        severalAtOnce();
    }

    /** Several orphans of one weight connect in one call. */
    private static void severalAtOnce() {
        int[][] orders = {{2, 3, 4}, {2, 4, 3}, {3, 2, 4}, {3, 4, 2}, {4, 2, 3}, {4, 3, 2}};
        for (int[] order : orders) {
            ChainNode x = new ChainNode();
            for (int b : order) {
                Calls.send(x, b, 1, 5);
            }
            due("they connect", Calls.send(x, 1, 0, 1), 1);
            due("the first of them", x.tip(), order[0]);
        }
    }

    private static void tipsChain() {
        ChainNode x = new ChainNode();
        Calls.mineAll(x, 1, 4);
        Calls.send(x, 5, 2, 9);
        int[] chain = {0, 1, 2, 5};
        for (int height = 0; height < chain.length; height++) {
            due("at " + height, x.at(height), chain[height]);
        }
        due("above the tip", x.at(4), REFUSED);
        for (int b = 0; b <= 23; b++) {
            boolean there = b <= 2 || b == 5;
            due("coinbase of " + b, x.unspent(32 + b, 0), there ? 50 : 0);
        }
        Calls.send(x, 6, 4, 15);
        int[] longer = {0, 1, 2, 3, 4, 6};
        for (int height = 0; height < longer.length; height++) {
            due("back again at " + height, x.at(height), longer[height]);
        }
    }

    private static void atMostEight() {
        ChainNode x = new ChainNode();
        x.mine(1, 1, 1);
        Calls.payOn(x, 0, 10);
        for (int t = 0; t < 8; t++) {
            due("offer " + t, x.offer(t), true);
            due("so many", x.count(3), t + 1);
        }
        due("the ninth", x.offer(8), false);
        duePool("eight", x, 0, 1, 2, 3, 4, 5, 6, 7);
        Calls.send(x, 2, 1, 1, 0, 1, 2);
        duePool("five", x, 3, 4, 5, 6, 7);
        due("room again", x.offer(8), true);
        Calls.send(x, 3, 1, 15);
        duePool("eight of nine after the tip has changed", x, 0, 1, 2, 3, 4, 5, 6, 7);
    }

    private static void poolIsEmptyAtFirst() {
        ChainNode x = new ChainNode();
        duePool("a new object", x);
        due("nothing to mine", x.mine(1, 1, 1), 0);
        duePool("after a block", x);
    }

    private static void offers() {
        ChainNode x = new ChainNode();
        x.mine(1, 1, 0x6A);
        x.mine(2, 1, 1);
        Calls.spend(x, 0, 33, 2, 50);
        Calls.spend(x, 1, 33, 3, 50);
        Calls.spend(x, 2, 33, 4, 50);
        Calls.pay(x, 3, 1, 0, 50);
        Calls.pay(x, 4, 34, 0, 50);
        due("at the tip's height", x.offer(0), false);
        due("at the tip's height + 2", x.offer(2), false);
        due("a coinbase of the tip", x.offer(4), false);
        due("made by none", x.offer(3), false);
        due("at the tip's height + 1", x.offer(1), true);
        due("made by one of the pool", x.offer(3), true);
        due("it is in the pool", x.offer(1), false);
        x.mine(3, 1, 1);
        due("it is in the chain", x.offer(1), false);
        due("one block later", x.offer(4), true);
    }

    private static void lessThanEight() {
        for (int held = 0; held <= 8; held++) {
            ChainNode x = new ChainNode();
            x.mine(1, 1, 1);
            Calls.payOn(x, 10, 9);
            for (int t = 10; t < 10 + held; t++) {
                x.offer(t);
            }
            due("on top of " + held, x.offer(10 + held), held < 8);
            due("at the end", x.pooled(held), held < 8 ? 10 + held : REFUSED);
            due("the first stays", x.pooled(0), 10);
        }
        ChainNode x = new ChainNode();
        Calls.mineAll(x, 1, 4);
        for (int t = 3; t >= 0; t--) {
            Calls.pay(x, t, 32 + t, 0, 50);
            x.offer(t);
        }
        duePool("in the order of their coming", x, 3, 2, 1, 0);
    }

    private static void elseNothing() {
        ChainNode x = new ChainNode();
        x.mine(1, 1, 1);
        Calls.payOn(x, 0, 9);
        Calls.pay(x, 9, 32, 0, 49);
        Calls.pay(x, 10, 33, 0, 50);
        x.offer(0);
        long before = Calls.digest(x);
        due("does not fit", x.offer(9), false);
        due("unripe", x.offer(10), false);
        due("open", x.offer(11), false);
        due("the same again", x.offer(0), false);
        due("nothing happened", Calls.digest(x), before);
        due("an open one stays open", x.input(11, 32, 0, 0), 1);
        ChainNode y = new ChainNode();
        y.mine(1, 1, 1);
        Calls.payOn(y, 0, 9);
        for (int t = 0; t < 8; t++) {
            y.offer(t);
        }
        long full = Calls.digest(y);
        due("a full pool", y.offer(8), false);
        due("nothing happened to it", Calls.digest(y), full);
        y.mine(2, 1, 1);
        duePool("what was turned away does not wait", y, 3, 4, 5, 6, 7);
    }

    private static void offeredAnew() {
        ChainNode x = new ChainNode();
        x.mine(1, 1, 0x6A);
        Calls.mineAll(x, 2, 3);
        Calls.spend(x, 0, 33, 4, 50);
        Calls.pay(x, 1, 0, 0, 50);
        Calls.pay(x, 2, 32, 0, 50);
        Calls.pay(x, 3, 34, 0, 50);
        due("good for height 4 alone", x.offer(0), true);
        due("spends that one", x.offer(1), true);
        due("good at all heights", x.offer(2), true);
        due("good as long as block 2 is there", x.offer(3), true);
        Calls.send(x, 20, 0, 1);
        duePool("the tip does not change", x, 0, 1, 2, 3);
        Calls.send(x, 4, 3, 1);
        duePool("at height 5", x, 2, 3);
        Calls.send(x, 5, 4, 1, 2);
        duePool("taken into a block", x, 3);
        Calls.send(x, 6, 1, 15);
        duePool("block 2 is given up", x, 2);
        roomIsFilledInTheirOrder();
    }

    /** One that fits no more leaves its room to those that come after it. */
    private static void roomIsFilledInTheirOrder() {
        ChainNode x = new ChainNode();
        Calls.mineAll(x, 1, 3);
        Calls.payOn(x, 0, 8);
        Calls.pay(x, 8, 33, 0, 50);
        Calls.pay(x, 9, 33, 0, 49);
        Calls.send(x, 4, 3, 1, 8);
        for (int t = 0; t < 8; t++) {
            x.offer(t);
        }
        Calls.send(x, 5, 3, 9);
        duePool("the block's one takes the room of the last", x, 8, 0, 1, 2, 3, 4, 5, 6);
        Calls.send(x, 6, 5, 1, 9);
        duePool("it does not fit after the other", x, 0, 1, 2, 3, 4, 5, 6);
        Calls.send(x, 7, 4, 15);
        duePool("and that one does not fit now", x, 0, 1, 2, 3, 4, 5, 6);
    }

    private static void ofBlocksGivenUp() {
        ChainNode x = new ChainNode();
        Calls.mineAll(x, 1, 4);
        Calls.pay(x, 0, 32, 0, 50);
        Calls.pay(x, 1, 33, 0, 50);
        Calls.pay(x, 2, 34, 0, 50);
        Calls.pay(x, 3, 35, 0, 50);
        Calls.send(x, 5, 4, 1, 0);
        Calls.send(x, 6, 5, 1, 1);
        Calls.send(x, 7, 2, 1, 2);
        Calls.send(x, 8, 5, 5);
        duePool("of the block that is in the chain no more", x, 1);
        Calls.send(x, 9, 6, 15);
        duePool("back again: it is in the chain", x);
        Calls.send(x, 10, 4, 15);
        due("as heavy comes later", x.tip(), 9);
        Calls.send(x, 11, 10, 15, 3);
        duePool("of two blocks, not of those beside, not of the new one", x, 0, 1);
        Calls.send(x, 12, 11, 1);
        duePool("a chain that grows gives nothing up", x, 0, 1);
        nothingElseIsOffered();
    }

    /** What would fit, but was in no such block and not in the pool, stays outside. */
    private static void nothingElseIsOffered() {
        for (int count = 0; count <= 3; count++) {
            ChainNode x = new ChainNode();
            Calls.mineAll(x, 1, 6);
            for (int t = 0; t < 5; t++) {
                Calls.pay(x, t, 32 + t, 0, 50);
            }
            Calls.send(x, 23, 6, 15, 4);
            Calls.send(x, 8, 6, 1, 0);
            x.block(7, 23, 1);
            for (int i = 0; i < 3; i++) {
                x.include(7, 0);
            }
            x.block(7, 23, 1);
            for (int t = 1; t <= count; t++) {
                x.include(7, t);
            }
            x.submit(7);
            due("a block of " + count, x.tip(), 7);
            Calls.send(x, 9, 23, 15);
            due("its transactions alone", x.count(3), count);
            due("0 fits, but was not offered", x.offer(0), true);
        }
    }

    private static void lowestBlockFirst() {
        ChainNode x = new ChainNode();
        Calls.mineAll(x, 1, 4);
        for (int t = 0; t < 4; t++) {
            Calls.pay(x, t, 32 + t, 0, 50);
        }
        Calls.pay(x, 9, 2, 0, 50);
        Calls.send(x, 20, 4, 1, 2, 0);
        Calls.send(x, 19, 20, 1, 9, 3, 1);
        Calls.send(x, 5, 4, 15);
        duePool("two blocks, the lower with the higher number", x, 2, 0, 9, 3, 1);
        ChainNode y = new ChainNode();
        Calls.mineAll(y, 1, 1);
        Calls.payOn(y, 0, 9);
        Calls.send(y, 2, 1, 1, 0, 1, 2);
        Calls.send(y, 3, 2, 1, 3, 4, 5);
        Calls.send(y, 4, 3, 1, 6, 7, 8);
        Calls.send(y, 5, 1, 15);
        duePool("nine, each spending the one before", y, 0, 1, 2, 3, 4, 5, 6, 7);
    }

    private static void thenThePool() {
        ChainNode x = new ChainNode();
        Calls.mineAll(x, 1, 6);
        for (int t = 0; t < 6; t++) {
            Calls.pay(x, t, 32 + t, 0, 50);
        }
        x.offer(3);
        x.offer(2);
        Calls.send(x, 7, 6, 1, 5, 0);
        x.offer(1);
        duePool("before", x, 3, 2, 1);
        Calls.send(x, 8, 6, 15);
        duePool("the block's, then the pool's", x, 5, 0, 3, 2, 1);
        Calls.send(x, 9, 8, 1);
        duePool("once more", x, 5, 0, 3, 2, 1);
        ChainNode y = new ChainNode();
        Calls.mineAll(y, 1, 3);
        Calls.pay(y, 0, 32, 0, 50);
        Calls.pay(y, 1, 32, 0, 49);
        Calls.send(y, 4, 3, 1, 0);
        Calls.send(y, 5, 3, 9);
        duePool("the block's one", y, 0);
        Calls.send(y, 6, 5, 1, 1);
        duePool("another spends the same in a block", y);
        Calls.send(y, 7, 5, 9);
        duePool("that one is given up", y, 1);
        due("the first is forgotten", y.offer(0), false);
    }
}
