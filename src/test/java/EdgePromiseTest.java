/** Sentence by sentence: promises 1 to 10, the calls that change something. */
public final class EdgePromiseTest {
    private static final Checks CHECKS = new Checks();
    private static final int REFUSED = ChainNode.REFUSED;
    private static final int FULL = ChainNode.FULL;

    public static void main(String[] args) {
        CHECKS.sentence("Promise 1", "Everything as said for the start.", EdgePromiseTest::start);
        CHECKS.sentence("Promise 2", "Adds an input to the transaction 0..31.", EdgePromiseTest::inputAdds);
        CHECKS.sentence("Promise 2", "REFUSED if it is sealed", EdgePromiseTest::inputSealed);
        CHECKS.sentence("Promise 2", "FULL if it has two.", EdgePromiseTest::inputFull);
        CHECKS.sentence("Promise 2", "Else the number of its inputs.", EdgePromiseTest::inputNumber);
        CHECKS.sentence("Promise 3", "Adds an output to the transaction 0..31 (amount 1..1000).", EdgePromiseTest::outputAdds);
        CHECKS.sentence("Promise 3", "REFUSED if it is sealed", EdgePromiseTest::outputSealed);
        CHECKS.sentence("Promise 3", "FULL if it has two.", EdgePromiseTest::outputFull);
        CHECKS.sentence("Promise 3", "Else the number of its outputs.", EdgePromiseTest::outputNumber);
        CHECKS.sentence("Promise 4", "Seals the transaction 0..31.", EdgePromiseTest::sealNumbers);
        CHECKS.sentence("Promise 4", "REFUSED if it is sealed.", EdgePromiseTest::sealTwice);
        CHECKS.sentence("Promise 4", "Else the number of its inputs and outputs.", EdgePromiseTest::sealCounts);
        CHECKS.sentence("Promise 5", "Offers the transaction 0..31 to the pool: true if it was added.", EdgePromiseTest::offer);
        CHECKS.sentence("Promise 5", "False for other numbers.", EdgePromiseTest::offerOthers);
        CHECKS.sentence("Promise 6", "Makes block 1..23", EdgePromiseTest::blockNumbers);
        CHECKS.sentence("Promise 6", "with a parent 0..23 other than itself", EdgePromiseTest::blockParents);
        CHECKS.sentence("Promise 6", "and a work 1..15", EdgePromiseTest::blockWorks);
        CHECKS.sentence("Promise 6", "a draft without transactions whose coinbase has the amount 50 and the lock 1.", EdgePromiseTest::blockIsEmpty);
        CHECKS.sentence("Promise 6", "REFUSED if it was submitted", EdgePromiseTest::blockSubmitted);
        CHECKS.sentence("Promise 6", "a draft is made anew.", EdgePromiseTest::blockAnew);
        CHECKS.sentence("Promise 7", "Adds the transaction 0..31 to the draft.", EdgePromiseTest::includeAdds);
        CHECKS.sentence("Promise 7", "REFUSED if the block is no draft", EdgePromiseTest::includeNoDraft);
        CHECKS.sentence("Promise 7", "or the transaction is not sealed", EdgePromiseTest::includeNotSealed);
        CHECKS.sentence("Promise 7", "FULL if it has three.", EdgePromiseTest::includeFull);
        CHECKS.sentence("Promise 7", "Else the number of its transactions.", EdgePromiseTest::includeNumber);
        CHECKS.sentence("Promise 8", "Sets amount (1..1000)", EdgePromiseTest::rewardAmount);
        CHECKS.sentence("Promise 8", "and lock of the draft's coinbase.", EdgePromiseTest::rewardLock);
        CHECKS.sentence("Promise 8", "REFUSED if the block is no draft. Answers 1.", EdgePromiseTest::rewardRefused);
        CHECKS.sentence("Promise 9", "Submits the draft. REFUSED if the block is no draft.", EdgePromiseTest::submitRefused);
        CHECKS.sentence("Promise 9", "Answers 1 if the tip changed, else 0.", EdgePromiseTest::submitAnswers);
        CHECKS.sentence("Promise 10", "The block 1..23", EdgePromiseTest::mineNumbers);
        CHECKS.sentence("Promise 10", "which must not have been submitted (else REFUSED)", EdgePromiseTest::mineSubmitted);
        CHECKS.sentence("Promise 10", "becomes a block on the tip", EdgePromiseTest::mineOnTheTip);
        CHECKS.sentence("Promise 10", "with this work (1..15)", EdgePromiseTest::mineWorks);
        CHECKS.sentence("Promise 10", "the first three transactions of the pool (or as many as there are)", EdgePromiseTest::mineFirstThree);
        CHECKS.sentence("Promise 10", "a coinbase of 50 + their fees", EdgePromiseTest::mineCoinbase);
        CHECKS.sentence("Promise 10", "with this lock, and is submitted.", EdgePromiseTest::mineLock);
        CHECKS.sentence("Promise 10", "Answers the number of its transactions.", EdgePromiseTest::mineAnswers);
        CHECKS.end();
    }

    private static void due(String what, long got, long want) {
        CHECKS.due(what, got, want);
    }

    private static void due(String what, boolean got, boolean want) {
        CHECKS.due(what, got, want);
    }

    private static void start() {
        ChainNode x = new ChainNode();
        int[] counts = {0, 0, 0, 0, 50};
        for (int what = 0; what < counts.length; what++) {
            due("count " + what, x.count(what), counts[what]);
        }
        due("tip", x.tip(), 0);
        for (int i = 0; i <= 24; i++) {
            due("at " + i, x.at(i), i == 0 ? 0 : REFUSED);
            due("pooled " + i, x.pooled(i), REFUSED);
            due("no draft " + i, x.submit(i), REFUSED);
        }
        for (int t = 0; t <= 55; t++) {
            due("unspent " + t, x.unspent(t, 0), t == 32 ? 50 : 0);
            due("unspent at 1 " + t, x.unspent(t, 1), 0);
            due("depth " + t, x.depth(t), t == 32 ? 1 : 0);
        }
        for (int t = 0; t <= 31; t++) {
            due("open and empty " + t, x.seal(t), 0);
        }
        ChainNode busy = new ChainNode();
        Calls.gatherThousand(busy);
        due("one object does not touch another", Calls.digest(new ChainNode()), Calls.digest(x));
    }

    private static void inputAdds() {
        ChainNode x = new ChainNode();
        for (int t = 0; t <= 31; t++) {
            due("transaction " + t, x.input(t, 32, 0, 0), 1);
        }
        for (int t : Calls.outside(0, 31)) {
            due("transaction " + t, x.input(t, 32, 0, 0), REFUSED);
        }
        for (int t = 0; t <= 31; t++) {
            due("one was added to " + t, x.seal(t), 1);
        }
    }

    private static void inputSealed() {
        for (int inputs = 0; inputs <= 2; inputs++) {
            ChainNode x = new ChainNode();
            for (int i = 0; i < inputs; i++) {
                x.input(9, 32 + i, 0, 0);
            }
            x.seal(9);
            due("sealed with " + inputs, x.input(9, 34, 0, 0), REFUSED);
            due("another is open", x.input(8, 34, 0, 0), 1);
        }
    }

    private static void inputFull() {
        for (int t = 0; t <= 31; t++) {
            ChainNode x = new ChainNode();
            x.input(t, 32, 0, 0);
            x.input(t, 33, 0, 0);
            due("a third", x.input(t, 34, 0, 0), FULL);
            due("one of the two again", x.input(t, 32, 0, 0), FULL);
            x.output(t, 1, 1);
            due("a third after an output", x.input(t, 34, 0, 0), FULL);
        }
    }

    private static void inputNumber() {
        ChainNode x = new ChainNode();
        x.output(3, 1, 1);
        x.output(3, 1, 1);
        due("first, the outputs do not count", x.input(3, 0, 0, 0), 1);
        due("second, the same again", x.input(3, 0, 0, 0), 2);
        due("first, its own output", x.input(4, 4, 0, 0), 1);
        due("second, an output that is nowhere", x.input(4, 55, 1, 0), 2);
    }

    private static void outputAdds() {
        ChainNode x = new ChainNode();
        for (int t = 0; t <= 31; t++) {
            due("transaction " + t, x.output(t, 1000, 1), 1);
            due("amount 0", x.output(t, 0, 1), REFUSED);
            due("amount 1001", x.output(t, 1001, 1), REFUSED);
        }
        for (int t : Calls.outside(0, 31)) {
            due("transaction " + t, x.output(t, 1, 1), REFUSED);
        }
        for (int amount : Calls.outside(1, 1000)) {
            due("amount " + amount, x.output(0, amount, 1), REFUSED);
        }
        for (int t = 0; t <= 31; t++) {
            due("one was added to " + t, x.seal(t), 1);
        }
    }

    private static void outputSealed() {
        for (int outputs = 0; outputs <= 2; outputs++) {
            ChainNode x = new ChainNode();
            for (int i = 0; i < outputs; i++) {
                x.output(9, 1, 1);
            }
            x.seal(9);
            due("sealed with " + outputs, x.output(9, 1, 1), REFUSED);
            due("another is open", x.output(8, 1, 1), 1);
        }
    }

    private static void outputFull() {
        for (int t = 0; t <= 31; t++) {
            ChainNode x = new ChainNode();
            x.output(t, 1, 1);
            x.output(t, 1, 1);
            due("a third", x.output(t, 1, 1), FULL);
            x.input(t, 32, 0, 0);
            due("a third after an input", x.output(t, 1000, 1), FULL);
        }
    }

    private static void outputNumber() {
        ChainNode x = new ChainNode();
        x.input(3, 0, 0, 0);
        x.input(3, 0, 1, 0);
        due("first, the inputs do not count", x.output(3, 1, 1), 1);
        due("second", x.output(3, 1000, 1), 2);
        due("first of another", x.output(2, 1, 1), 1);
    }

    private static void sealNumbers() {
        ChainNode x = new ChainNode();
        for (int t : Calls.outside(0, 31)) {
            due("transaction " + t, x.seal(t), REFUSED);
        }
        for (int t = 0; t <= 31; t++) {
            due("transaction " + t, x.seal(t), 0);
        }
    }

    private static void sealTwice() {
        ChainNode x = new ChainNode();
        for (int t = 0; t <= 31; t++) {
            x.input(t, 32, 0, 0);
            x.seal(t);
            due("again " + t, x.seal(t), REFUSED);
            due("and again " + t, x.seal(t), REFUSED);
        }
    }

    private static void sealCounts() {
        for (int inputs = 0; inputs <= 2; inputs++) {
            for (int outputs = 0; outputs <= 2; outputs++) {
                ChainNode x = new ChainNode();
                for (int i = 0; i < inputs; i++) {
                    x.input(7, i, 0, 0);
                }
                for (int i = 0; i < outputs; i++) {
                    x.output(7, 1, 1);
                }
                due(inputs + " inputs, " + outputs + " outputs", x.seal(7), inputs + outputs);
            }
        }
        ChainNode x = new ChainNode();
        for (int i = 0; i < 5; i++) {
            x.input(7, i, 0, 0);
            x.output(7, 1, 1);
        }
        due("what was too much is not counted", x.seal(7), 4);
    }

    private static void offer() {
        ChainNode x = new ChainNode();
        Calls.mineAll(x, 1, 1);
        Calls.pay(x, 0, 32, 0, 50);
        Calls.pay(x, 31, 0, 0, 50);
        due("does not fit yet", x.offer(31), false);
        due("0", x.offer(0), true);
        due("31", x.offer(31), true);
        due("0 again", x.offer(0), false);
        due("two were added", x.count(3), 2);
        x.mine(2, 1, 1);
        due("0 in the chain", x.offer(0), false);
        Calls.send(x, 3, 1, 15);
        due("0 in the pool again", x.offer(0), false);
        due("the pool has it", x.pooled(0), 0);
    }

    private static void offerOthers() {
        ChainNode x = new ChainNode();
        Calls.mineAll(x, 1, 3);
        Calls.pay(x, 0, 32, 0, 50);
        for (int t : Calls.outside(0, 31)) {
            due("transaction " + t, x.offer(t), false);
        }
        for (int t = 32; t <= 55; t++) {
            due("coinbase " + t, x.offer(t), false);
        }
        due("none was added", x.count(3), 0);
    }

    private static void blockNumbers() {
        for (int block = 1; block <= 23; block++) {
            ChainNode x = new ChainNode();
            due("block " + block, x.block(block, 0, 1), 1);
            due("it is a draft", x.submit(block), 1);
            due("it is the tip", x.tip(), block);
        }
        ChainNode x = new ChainNode();
        for (int block : Calls.outside(1, 23)) {
            due("block " + block, x.block(block, 1, 1), REFUSED);
            due("no draft " + block, x.submit(block), REFUSED);
        }
    }

    private static void blockParents() {
        for (int block = 1; block <= 23; block++) {
            ChainNode x = new ChainNode();
            due("itself, not made", x.block(block, block, 1), REFUSED);
            due("no draft was made", x.submit(block), REFUSED);
            for (int parent = 0; parent <= 23; parent++) {
                due(block + " on " + parent, x.block(block, parent, 1), parent == block ? REFUSED : 1);
            }
            x.block(block, 0, 7);
            for (int parent : Calls.outside(0, 23)) {
                due(block + " on " + parent, x.block(block, parent, 1), REFUSED);
            }
            due("the last that was made", x.submit(block), 1);
            due("its work", x.count(1), 7);
        }
    }

    private static void blockWorks() {
        for (int work = 1; work <= 15; work++) {
            ChainNode x = new ChainNode();
            due("work " + work, x.block(5, 0, work), 1);
            for (int wrong : Calls.outside(1, 15)) {
                due("work " + wrong, x.block(5, 0, wrong), REFUSED);
            }
            x.submit(5);
            due("the weight is " + work, x.count(1), work);
        }
    }

    private static void blockIsEmpty() {
        ChainNode x = new ChainNode();
        Calls.mineAll(x, 1, 1);
        x.block(2, 1, 1);
        x.submit(2);
        due("amount", x.unspent(34, 0), 50);
        due("place 1", x.unspent(34, 1), 0);
        x.mine(3, 1, 1);
        Calls.spend(x, 0, 34, 0, 50);
        due("lock 1 is opened by 0", x.offer(0), true);
        x.block(4, 3, 1);
        due("no transactions", x.include(4, 0), 1);
        for (int t = 0; t <= 31; t++) {
            due("transaction " + t + " is in no block", x.depth(t), 0);
        }
    }

    private static void blockAnew() {
        ChainNode x = new ChainNode();
        Calls.mineAll(x, 1, 1);
        Calls.pay(x, 0, 32, 0, 50);
        due("made", x.block(2, 23, 3), 1);
        x.include(2, 0);
        x.include(2, 0);
        x.include(2, 0);
        x.reward(2, 1000, Calls.NEVER);
        due("made anew", x.block(2, 1, 4), 1);
        due("without transactions", x.include(2, 0), 1);
        due("on the new parent, with the old amount", x.submit(2), 1);
        due("with the new work", x.count(1), 5);
        due("the amount", x.unspent(34, 0), 50);
        x.mine(3, 1, 1);
        Calls.spend(x, 1, 34, 0, 50);
        due("the lock", x.offer(1), true);
    }

    private static void blockSubmitted() {
        ChainNode x = new ChainNode();
        Calls.mineAll(x, 1, 2);
        x.seal(0);
        due("the tip", x.block(2, 1, 4), REFUSED);
        due("below the tip", x.block(1, 0, 4), REFUSED);
        Calls.send(x, 4, 0, 1);
        due("beside the chain", x.block(4, 0, 1), REFUSED);
        Calls.send(x, 5, 6, 1);
        due("not connected", x.block(5, 0, 1), REFUSED);
        Calls.send(x, 7, 2, 1, 0);
        due("not good", x.block(7, 2, 1), REFUSED);
        due("one that another waits for is not", x.block(6, 2, 1), 1);
        due("nor is it after that", x.block(6, 1, 1), 1);
    }

    private static void includeAdds() {
        for (int t = 0; t <= 31; t++) {
            ChainNode x = new ChainNode();
            x.mine(1, 1, 1);
            Calls.pay(x, t, 32, 0, 50);
            x.block(2, 1, 1);
            due("transaction " + t, x.include(2, t), 1);
            due("the block is good", x.submit(2), 1);
            due("it has " + t, x.depth(t), 1);
        }
        ChainNode x = new ChainNode();
        x.block(1, 0, 1);
        for (int t : Calls.outside(0, 31)) {
            due("transaction " + t, x.include(1, t), REFUSED);
        }
        for (int t = 32; t <= 55; t++) {
            due("coinbase " + t, x.include(1, t), REFUSED);
        }
        x.seal(0);
        due("nothing was added", x.include(1, 0), 1);
    }

    private static void includeNoDraft() {
        ChainNode x = new ChainNode();
        x.seal(0);
        for (int block = 0; block <= 23; block++) {
            due("not made " + block, x.include(block, 0), REFUSED);
        }
        for (int block : Calls.outside(1, 23)) {
            due("block " + block, x.include(block, 0), REFUSED);
        }
        Calls.send(x, 1, 0, 1);
        due("submitted", x.include(1, 0), REFUSED);
        x.mine(2, 1, 1);
        due("mined", x.include(2, 0), REFUSED);
        Calls.send(x, 3, 4, 1);
        due("not connected", x.include(3, 0), REFUSED);
        x.block(5, 0, 16);
        due("its making was refused", x.include(5, 0), REFUSED);
    }

    private static void includeNotSealed() {
        ChainNode x = new ChainNode();
        x.block(1, 0, 1);
        for (int t = 0; t <= 31; t++) {
            due("open and empty " + t, x.include(1, t), REFUSED);
        }
        x.input(1, 32, 0, 0);
        x.output(1, 1, 1);
        due("open", x.include(1, 1), REFUSED);
        x.seal(1);
        due("sealed", x.include(1, 1), 1);
        x.seal(2);
        due("sealed and empty", x.include(1, 2), 2);
    }

    private static void includeFull() {
        for (int block = 1; block <= 23; block++) {
            ChainNode x = new ChainNode();
            x.seal(0);
            x.seal(31);
            x.block(block, 0, 1);
            for (int i = 0; i < 3; i++) {
                x.include(block, 0);
            }
            due("a fourth", x.include(block, 31), FULL);
            due("a fourth again", x.include(block, 0), FULL);
            x.block(block, 0, 1);
            due("made anew", x.include(block, 31), 1);
        }
    }

    private static void includeNumber() {
        ChainNode x = new ChainNode();
        x.seal(0);
        x.seal(31);
        x.block(1, 0, 1);
        x.block(2, 0, 1);
        due("first", x.include(1, 0), 1);
        due("second, the same", x.include(1, 0), 2);
        due("first of another block", x.include(2, 0), 1);
        due("third", x.include(1, 31), 3);
        due("second of the other block", x.include(2, 31), 2);
    }

    private static void rewardAmount() {
        for (int amount = 1; amount <= 1000; amount++) {
            ChainNode x = new ChainNode();
            x.block(23, 0, 1);
            due("amount " + amount, x.reward(23, amount, 1), 1);
            due("not more than 50", x.submit(23), amount <= 50 ? 1 : 0);
            due("the coinbase of " + amount, x.unspent(55, 0), amount <= 50 ? amount : 0);
        }
        ChainNode x = new ChainNode();
        x.block(1, 0, 1);
        x.reward(1, 7, 1);
        x.reward(1, 9, 1);
        for (int amount : Calls.outside(1, 1000)) {
            due("amount " + amount, x.reward(1, amount, 1), REFUSED);
        }
        x.submit(1);
        due("the amount that was set last", x.unspent(33, 0), 9);
    }

    private static void rewardLock() {
        ChainNode x = new ChainNode();
        x.block(1, 0, 1);
        x.reward(1, 9, 0x6B);
        x.reward(1, 9, 0x6A);
        x.reward(1, 0, 0x6B);
        x.submit(1);
        x.mine(2, 1, 1);
        Calls.spend(x, 0, 33, 2, 9);
        due("the lock that was set first", x.offer(0), false);
        Calls.spend(x, 1, 33, 3, 9);
        due("the lock that was set last", x.offer(1), true);
        int[] locks = {0xD1111111, 0x1111111};
        for (int lock : locks) {
            ChainNode y = new ChainNode();
            y.block(1, 0, 1);
            y.reward(1, 50, lock);
            y.submit(1);
            y.mine(2, 1, 1);
            Calls.spend(y, 0, 33, 0, 50);
            due("all eight codes of " + Integer.toHexString(lock), y.offer(0), lock > 0);
        }
    }

    private static void rewardRefused() {
        ChainNode x = new ChainNode();
        for (int block = 0; block <= 23; block++) {
            due("not made " + block, x.reward(block, 50, 1), REFUSED);
        }
        for (int block : Calls.outside(1, 23)) {
            due("block " + block, x.reward(block, 50, 1), REFUSED);
        }
        Calls.send(x, 1, 0, 1);
        due("submitted", x.reward(1, 1, 1), REFUSED);
        due("the genesis", x.reward(0, 1, 1), REFUSED);
        Calls.send(x, 2, 3, 1);
        due("not connected", x.reward(2, 1, 1), REFUSED);
        Calls.send(x, 3, 1, 1);
        due("the amounts are as they were", x.count(4), 200);
        x.block(4, 0, 1);
        due("a draft", x.reward(4, 7, 0x6A), 1);
        due("once more", x.reward(4, 1000, 0), 1);
    }

    private static void submitRefused() {
        ChainNode x = new ChainNode();
        for (int block = 0; block <= 23; block++) {
            due("not made " + block, x.submit(block), REFUSED);
        }
        for (int block : Calls.outside(1, 23)) {
            due("block " + block, x.submit(block), REFUSED);
        }
        Calls.send(x, 1, 0, 1);
        due("the tip", x.submit(1), REFUSED);
        Calls.send(x, 2, 3, 1);
        due("not connected", x.submit(2), REFUSED);
        x.mine(4, 1, 1);
        due("mined", x.submit(4), REFUSED);
        due("below the tip", x.submit(1), REFUSED);
        x.block(5, 6, 16);
        due("its making was refused", x.submit(5), REFUSED);
        due("one waits", x.count(2), 1);
    }

    private static void submitAnswers() {
        ChainNode x = new ChainNode();
        due("the tip grows", Calls.send(x, 1, 0, 3), 1);
        due("not connected", Calls.send(x, 2, 9, 15), 0);
        due("lighter", Calls.send(x, 3, 0, 2), 0);
        due("as heavy", Calls.send(x, 4, 0, 3), 0);
        x.block(5, 1, 15);
        x.reward(5, 51, 1);
        due("not good", x.submit(5), 0);
        due("heavier", Calls.send(x, 6, 0, 4), 1);
        due("an orphan of it is heavier", Calls.send(x, 9, 0, 1), 1);
        due("that orphan", x.tip(), 2);
        Calls.send(x, 10, 11, 1);
        due("its orphan is lighter too", Calls.send(x, 11, 0, 1), 0);
    }

    private static void mineNumbers() {
        for (int block = 1; block <= 23; block++) {
            ChainNode x = new ChainNode();
            due("block " + block, x.mine(block, 1, 1), 0);
            due("it is the tip", x.tip(), block);
        }
        ChainNode x = new ChainNode();
        for (int block : Calls.outside(1, 23)) {
            due("block " + block, x.mine(block, 1, 1), REFUSED);
        }
        due("the genesis is the tip", x.tip(), 0);
    }

    private static void mineSubmitted() {
        ChainNode x = new ChainNode();
        Calls.send(x, 1, 0, 1);
        due("the tip", x.mine(1, 1, 1), REFUSED);
        Calls.send(x, 2, 3, 1);
        due("not connected", x.mine(2, 1, 1), REFUSED);
        due("not made", x.mine(4, 1, 1), 0);
        due("mined before", x.mine(4, 1, 1), REFUSED);
        due("below the tip", x.mine(1, 1, 1), REFUSED);
        x.seal(0);
        Calls.send(x, 6, 4, 1, 0);
        due("not good", x.mine(6, 1, 1), REFUSED);
        x.block(5, 9, 1);
        due("a draft", x.mine(5, 1, 1), 0);
        due("that is the tip", x.tip(), 5);
        due("one still waits", x.count(2), 1);
    }

    private static void mineOnTheTip() {
        ChainNode x = new ChainNode();
        Calls.send(x, 7, 0, 2);
        Calls.send(x, 8, 0, 1);
        x.block(3, 8, 15);
        x.mine(3, 1, 1);
        due("the tip", x.tip(), 3);
        due("its parent", x.at(1), 7);
        due("its height", x.count(0), 2);
        ChainNode y = new ChainNode();
        for (int block = 23; block >= 1; block--) {
            y.mine(block, 1, 1);
            due("the tip " + block, y.tip(), block);
            due("below it " + block, y.at(23 - block), block == 23 ? 0 : block + 1);
        }
    }

    private static void mineWorks() {
        for (int work = 1; work <= 15; work++) {
            ChainNode x = new ChainNode();
            x.block(3, 0, 9);
            due("work " + work, x.mine(3, work, 1), 0);
            due("the weight is " + work, x.count(1), work);
        }
        ChainNode x = new ChainNode();
        for (int work : Calls.outside(1, 15)) {
            due("work " + work, x.mine(1, work, 1), REFUSED);
        }
        due("nothing was mined", x.tip(), 0);
        due("no draft was made", x.submit(1), REFUSED);
    }

    private static void mineFirstThree() {
        for (int held = 0; held <= 8; held++) {
            ChainNode x = new ChainNode();
            x.mine(1, 1, 1);
            Calls.payOn(x, 20, 8);
            for (int t = 20; t < 20 + held; t++) {
                x.offer(t);
            }
            int taken = held < 3 ? held : 3;
            x.mine(2, 1, 1);
            for (int t = 20; t < 28; t++) {
                due(t + " of " + held, x.depth(t), t < 20 + taken ? 1 : 0);
            }
            due("the rest of " + held, x.count(3), held - taken);
            due("the first of the rest of " + held, x.pooled(0), held > 3 ? 23 : REFUSED);
        }
        ChainNode x = new ChainNode();
        Calls.mineAll(x, 1, 1);
        x.seal(9);
        x.block(2, 1, 1);
        x.include(2, 9);
        due("what the draft had is gone", x.mine(2, 1, 1), 0);
        due("it is good", x.tip(), 2);
    }

    private static void mineCoinbase() {
        ChainNode x = new ChainNode();
        Calls.mineAll(x, 1, 4);
        int[] amounts = {49, 47, 43, 35};
        for (int t = 0; t < 4; t++) {
            Calls.pay(x, t, 32 + t, 0, amounts[t]);
            x.offer(t);
        }
        x.block(5, 1, 1);
        x.reward(5, 1, 1);
        x.mine(5, 1, 1);
        due("fees 1, 3 and 7 of the first three", x.unspent(37, 0), 61);
        due("place 1", x.unspent(37, 1), 0);
        x.mine(6, 1, 1);
        due("the fee 15 of the fourth", x.unspent(38, 0), 65);
        due("nothing is lost", x.count(4), 7 * 50);
        ChainNode y = new ChainNode();
        y.mine(1, 1, 1);
        due("without fees", y.unspent(33, 0), 50);
        manyFees();
    }

    private static void mineLock() {
        ChainNode x = new ChainNode();
        x.block(1, 0, 1);
        x.reward(1, 50, Calls.NEVER);
        x.mine(1, 1, 0x6B);
        due("it is no draft now", x.submit(1), REFUSED);
        due("it is the tip", x.tip(), 1);
        x.mine(2, 1, 1);
        Calls.spend(x, 8, 33, 1, 50);
        due("the lock is not opened by 1", x.offer(8), false);
        Calls.spend(x, 9, 33, 2, 50);
        due("the lock is opened by 2", x.offer(9), true);
        int[] locks = {0xD1111111, 0x1111111};
        for (int lock : locks) {
            ChainNode y = new ChainNode();
            y.mine(1, 1, lock);
            y.mine(2, 1, 1);
            Calls.spend(y, 0, 33, 0, 50);
            due("all eight codes of " + Integer.toHexString(lock), y.offer(0), lock > 0);
        }
    }

    /** The document bounds the amounts that are told, not what the fees come to. */
    private static void manyFees() {
        ChainNode x = new ChainNode();
        Calls.gatherThousand(x);
        Calls.pay(x, 19, 18, 0, 49);
        x.offer(19);
        x.mine(22, 1, 1);
        due("50 and the fee 951", x.unspent(54, 0), 1001);
        due("it is the tip", x.tip(), 22);
        due("nothing is lost", x.count(4), 23 * 50);
    }

    private static void mineAnswers() {
        ChainNode x = new ChainNode();
        due("none", x.mine(1, 1, 1), 0);
        Calls.payOn(x, 0, 8);
        for (int t = 0; t < 8; t++) {
            x.offer(t);
        }
        due("three of eight", x.mine(2, 1, 1), 3);
        due("three of five", x.mine(3, 1, 1), 3);
        due("two of two", x.mine(4, 1, 1), 2);
        due("none is left", x.mine(5, 1, 1), 0);
        ChainNode y = new ChainNode();
        y.mine(1, 1, 1);
        Calls.pay(y, 0, 32, 0, 50);
        y.offer(0);
        Calls.send(y, 9, 8, 1);
        due("its own, not those of the orphan that waited for it", y.mine(8, 1, 1), 1);
        due("the orphan is the tip", y.tip(), 9);
    }
}
