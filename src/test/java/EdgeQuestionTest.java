/** Sentence by sentence: promises 11 to 16, the questions. */
public final class EdgeQuestionTest {
    private static final Checks CHECKS = new Checks();
    private static final int REFUSED = ChainNode.REFUSED;

    public static void main(String[] args) {
        CHECKS.sentence("Promise 11", "The tip.", EdgeQuestionTest::tip);
        CHECKS.sentence("Promise 12", "The tip's height (what 0)", EdgeQuestionTest::heights);
        CHECKS.sentence("Promise 12", "its weight (1)", EdgeQuestionTest::weights);
        CHECKS.sentence("Promise 12", "how many submitted blocks are not connected (2)", EdgeQuestionTest::orphans);
        CHECKS.sentence("Promise 12", "the number of transactions in the pool (3)", EdgeQuestionTest::pool);
        CHECKS.sentence("Promise 12", "the sum of all unspent amounts after the chain (4)", EdgeQuestionTest::unspentAmounts);
        CHECKS.sentence("Promise 12", "else REFUSED.", EdgeQuestionTest::otherCounts);
        CHECKS.sentence("Promise 13", "The block of the chain with this height", EdgeQuestionTest::at);
        CHECKS.sentence("Promise 13", "REFUSED if there is none.", EdgeQuestionTest::atNone);
        CHECKS.sentence("Promise 14", "The amount of the output (transaction 0..55, place 0 or 1) if it is unspent after the chain",
            EdgeQuestionTest::unspent);
        CHECKS.sentence("Promise 14", "else 0", EdgeQuestionTest::unspentElse);
        CHECKS.sentence("Promise 14", "REFUSED.", EdgeQuestionTest::unspentRefused);
        CHECKS.sentence("Promise 15", "The transaction at this place of the pool (0: the first)", EdgeQuestionTest::pooled);
        CHECKS.sentence("Promise 15", "REFUSED if there is none.", EdgeQuestionTest::pooledNone);
        CHECKS.sentence("Promise 16", "Of a transaction 0..55 that is in a block of the chain (a coinbase too): the tip's height minus the block's, plus 1.",
            EdgeQuestionTest::depth);
        CHECKS.sentence("Promise 16", "Else 0", EdgeQuestionTest::depthElse);
        CHECKS.sentence("Promise 16", "REFUSED.", EdgeQuestionTest::depthRefused);
        CHECKS.end();
    }

    private static void due(String what, long got, long want) {
        CHECKS.due(what, got, want);
    }

    private static void tip() {
        ChainNode x = new ChainNode();
        due("of a new object", x.tip(), 0);
        x.block(23, 0, 1);
        due("beside a draft", x.tip(), 0);
        x.submit(23);
        due("the last block", x.tip(), 23);
        Calls.send(x, 1, 0, 2);
        due("the first block", x.tip(), 1);
        Calls.send(x, 2, 3, 15);
        due("beside an orphan", x.tip(), 1);
    }

    private static void heights() {
        ChainNode x = new ChainNode();
        due("of the genesis", x.count(0), 0);
        for (int b = 1; b <= 23; b++) {
            x.mine(b, 1, 1);
            due("of " + b, x.count(0), b);
        }
        ChainNode y = new ChainNode();
        Calls.mineAll(y, 1, 4);
        Calls.send(y, 5, 0, 15);
        due("of a tip that is lower than the one before", y.count(0), 1);
    }

    private static void weights() {
        ChainNode x = new ChainNode();
        due("of the genesis", x.count(1), 0);
        for (int b = 1; b <= 23; b++) {
            x.mine(b, 15, 1);
            due("of " + b, x.count(1), 15 * b);
        }
        ChainNode y = new ChainNode();
        Calls.send(y, 1, 0, 5);
        Calls.send(y, 2, 0, 4);
        Calls.send(y, 3, 9, 15);
        due("the works beside the chain do not count", y.count(1), 5);
    }

    private static void orphans() {
        ChainNode x = new ChainNode();
        due("none", x.count(2), 0);
        for (int b = 2; b <= 23; b++) {
            x.block(b, 1, 1);
            due("a draft is not submitted", x.count(2), b - 2);
            x.submit(b);
            due("so many wait", x.count(2), b - 1);
        }
        x.block(1, 0, 1);
        due("their parent is a draft", x.count(2), 22);
        x.submit(1);
        due("their parent is connected", x.count(2), 0);
        ChainNode y = new ChainNode();
        for (int b = 1; b <= 23; b++) {
            Calls.send(y, b, b == 23 ? 1 : b + 1, 1);
        }
        due("a ring of all blocks", y.count(2), 23);
        due("the genesis is the tip", y.tip(), 0);
    }

    private static void pool() {
        ChainNode x = new ChainNode();
        x.mine(1, 1, 1);
        Calls.payOn(x, 0, 9);
        due("none", x.count(3), 0);
        for (int t = 0; t < 9; t++) {
            x.offer(t);
            due("after " + t, x.count(3), t < 8 ? t + 1 : 8);
        }
        x.mine(2, 1, 1);
        due("without three", x.count(3), 5);
    }

    private static void unspentAmounts() {
        ChainNode x = new ChainNode();
        due("the genesis", x.count(4), 50);
        Calls.mineAll(x, 1, 2);
        Calls.split(x, 0, 32, 0, 10, 33);
        x.offer(0);
        due("the pool spends nothing", x.count(4), 150);
        Calls.send(x, 3, 2, 1, 0);
        due("a fee that no coinbase takes is gone", x.count(4), 193);
        due("is the sum of its parts", x.unspent(33, 0) + x.unspent(34, 0) + x.unspent(35, 0) + x.unspent(0, 0) + x.unspent(0, 1), 193);
        Calls.send(x, 4, 2, 15);
        due("of the new chain alone", x.count(4), 200);
        ChainNode y = new ChainNode();
        Calls.mineAll(y, 1, 23);
        due("all coinbases", y.count(4), 24 * 50);
        ChainNode z = new ChainNode();
        z.block(1, 0, 1);
        z.reward(1, 1, 1);
        z.submit(1);
        due("a small coinbase", z.count(4), 51);
    }

    private static void otherCounts() {
        ChainNode x = new ChainNode();
        Calls.mineAll(x, 1, 3);
        for (int what : Calls.outside(0, 4)) {
            due("what " + what, x.count(what), REFUSED);
        }
        due("what 5", x.count(5), REFUSED);
        due("what -1", x.count(-1), REFUSED);
    }

    /** A chain of so many blocks on the genesis, numbered downwards from 23. */
    private static ChainNode downwards(int blocks) {
        ChainNode x = new ChainNode();
        for (int i = 1; i <= blocks; i++) {
            x.mine(24 - i, 1, 1);
        }
        return x;
    }

    private static void at() {
        for (int top = 0; top <= 23; top++) {
            ChainNode x = downwards(top);
            due("the genesis", x.at(0), 0);
            for (int height = 1; height <= top; height++) {
                due(height + " of " + top, x.at(height), 24 - height);
            }
        }
        ChainNode x = new ChainNode();
        Calls.mineAll(x, 1, 5);
        Calls.send(x, 9, 1, 15);
        due("the new tip", x.at(2), 9);
        due("what both chains have", x.at(1), 1);
    }

    private static void atNone() {
        for (int top = 0; top <= 23; top++) {
            ChainNode x = downwards(top);
            for (int height : Calls.outside(0, top)) {
                due(height + " of " + top, x.at(height), REFUSED);
            }
        }
        ChainNode x = new ChainNode();
        Calls.mineAll(x, 1, 5);
        Calls.send(x, 9, 1, 15);
        due("what the chain before had above", x.at(3), REFUSED);
    }

    /** Transaction 31 has 1 and 49 in block 23; it spends the genesis' coinbase. */
    private static ChainNode splitIn23() {
        ChainNode x = new ChainNode();
        Calls.mineAll(x, 1, 2);
        Calls.split(x, 31, 32, 0, 1, 49);
        Calls.send(x, 23, 2, 1, 31);
        return x;
    }

    private static void unspent() {
        ChainNode x = splitIn23();
        due("transaction 31, place 0", x.unspent(31, 0), 1);
        due("transaction 31, place 1", x.unspent(31, 1), 49);
        due("coinbase 55", x.unspent(55, 0), 50);
        Calls.pay(x, 0, 31, 1, 49);
        Calls.send(x, 3, 23, 1, 0);
        due("transaction 0", x.unspent(0, 0), 49);
        due("what is left of 31", x.unspent(31, 0), 1);
        ChainNode y = new ChainNode();
        due("the genesis' coinbase", y.unspent(32, 0), 50);
    }

    private static void unspentElse() {
        ChainNode x = splitIn23();
        due("spent", x.unspent(32, 0), 0);
        due("spent, place 1", x.unspent(32, 1), 0);
        due("coinbase 55, place 1", x.unspent(55, 1), 0);
        due("open and empty", x.unspent(0, 0), 0);
        due("open and empty, place 1", x.unspent(0, 1), 0);
        x.output(0, 7, 1);
        due("open, with an output", x.unspent(0, 0), 0);
        x.seal(0);
        due("sealed, in no block", x.unspent(0, 0), 0);
        due("a block that is not made", x.unspent(54, 0), 0);
        x.block(22, 23, 1);
        due("a draft", x.unspent(54, 0), 0);
    }

    private static void unspentRefused() {
        ChainNode x = splitIn23();
        for (int t : Calls.outside(0, 55)) {
            due("transaction " + t + ", place 0", x.unspent(t, 0), REFUSED);
            due("transaction " + t + ", place 1", x.unspent(t, 1), REFUSED);
        }
        for (int place : Calls.outside(0, 1)) {
            due("transaction 31, place " + place, x.unspent(31, place), REFUSED);
            due("transaction 0, place " + place, x.unspent(0, place), REFUSED);
            due("coinbase 55, place " + place, x.unspent(55, place), REFUSED);
        }
    }

    /** A pool of so many transactions, from 20 on. */
    private static ChainNode pooling(int transactions) {
        ChainNode x = new ChainNode();
        x.mine(1, 1, 1);
        Calls.payOn(x, 20, 8);
        for (int t = 20; t < 20 + transactions; t++) {
            x.offer(t);
        }
        return x;
    }

    private static void pooled() {
        for (int held = 1; held <= 8; held++) {
            ChainNode x = pooling(held);
            for (int place = 0; place < held; place++) {
                due("place " + place + " of " + held, x.pooled(place), 20 + place);
            }
        }
        ChainNode x = pooling(5);
        x.mine(2, 1, 1);
        due("the first after three were taken", x.pooled(0), 23);
    }

    private static void pooledNone() {
        for (int held = 0; held <= 8; held++) {
            ChainNode x = pooling(held);
            for (int place = held; place <= 9; place++) {
                due("place " + place + " of " + held, x.pooled(place), REFUSED);
            }
            for (int place : Calls.outside(0, 7)) {
                due("place " + place + " of " + held, x.pooled(place), REFUSED);
            }
        }
        ChainNode x = pooling(8);
        x.mine(2, 1, 1);
        due("where the sixth was", x.pooled(5), REFUSED);
    }

    private static void depth() {
        ChainNode x = new ChainNode();
        x.mine(1, 1, 1);
        Calls.pay(x, 31, 32, 0, 50);
        Calls.pay(x, 0, 31, 0, 50);
        Calls.pay(x, 15, 0, 0, 50);
        Calls.send(x, 2, 1, 1, 31, 0, 15);
        for (int b = 3; b <= 23; b++) {
            due("the first of its block", x.depth(31), b - 2);
            due("the second of its block", x.depth(0), b - 2);
            due("the third of its block", x.depth(15), b - 2);
            due("its coinbase", x.depth(34), b - 2);
            due("the tip's coinbase", x.depth(31 + b), 1);
            due("the genesis' coinbase", x.depth(32), b);
            x.mine(b, 1, 1);
        }
        due("the lowest of the longest chain", x.depth(32), 24);
        due("the highest of the longest chain", x.depth(55), 1);
    }

    private static void depthElse() {
        ChainNode x = new ChainNode();
        Calls.mineAll(x, 1, 2);
        Calls.payOn(x, 0, 2);
        due("in no block", x.depth(0), 0);
        x.offer(0);
        due("in the pool", x.depth(0), 0);
        x.block(3, 2, 1);
        x.include(3, 0);
        due("in a draft", x.depth(0), 0);
        due("a draft's coinbase", x.depth(35), 0);
        due("no block's coinbase", x.depth(55), 0);
        Calls.send(x, 4, 1, 1, 0);
        due("beside the chain", x.depth(0), 0);
        due("a coinbase beside the chain", x.depth(36), 0);
        Calls.send(x, 5, 9, 1, 0);
        due("not connected", x.depth(0), 0);
        due("a coinbase not connected", x.depth(37), 0);
        x.submit(3);
        due("in the chain", x.depth(0), 1);
        Calls.send(x, 6, 2, 15);
        due("given up", x.depth(0), 0);
        due("a given up coinbase", x.depth(35), 0);
    }

    private static void depthRefused() {
        ChainNode x = splitIn23();
        for (int t : Calls.outside(0, 55)) {
            due("transaction " + t, x.depth(t), REFUSED);
        }
    }
}
