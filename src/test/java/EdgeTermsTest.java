/** Sentence by sentence: how often an object is called, and the bounds of transactions and blocks. */
public final class EdgeTermsTest {
    private static final Checks CHECKS = new Checks();
    private static final int REFUSED = ChainNode.REFUSED;
    private static final int FULL = ChainNode.FULL;

    public static void main(String[] args) {
        CHECKS.sentence("What it is", "An object is used for at most 512 calls after it has been made", EdgeTermsTest::lastCalls);
        CHECKS.sentence("What it is", "what later calls answer is free", EdgeTermsTest::laterCalls);
        CHECKS.sentence("Terms", "TRANSACTIONS 0 .. 31", EdgeTermsTest::transactions);
        CHECKS.sentence("Terms", "at most 2 INPUTS", EdgeTermsTest::twoInputs);
        CHECKS.sentence("Terms", "each names an output (transaction 0 .. 55, place 0 or 1)", EdgeTermsTest::namedOutputs);
        CHECKS.sentence("Terms", "has a witness, an int", EdgeTermsTest::witnesses);
        CHECKS.sentence("Terms", "at most 2 OUTPUTS (place 0 and 1", EdgeTermsTest::twoOutputs);
        CHECKS.sentence("Terms", "each an amount 1 .. 1000", EdgeTermsTest::amounts);
        CHECKS.sentence("Terms", "and a lock, an int", EdgeTermsTest::locks);
        CHECKS.sentence("Terms", "A transaction is OPEN until it is sealed", EdgeTermsTest::openUntilSealed);
        CHECKS.sentence("Terms", "and empty at first.", EdgeTermsTest::emptyAtFirst);
        CHECKS.sentence("Terms", "The numbers 32 + b name the coinbase of block b", EdgeTermsTest::coinbaseNumbers);
        CHECKS.sentence("Terms", "which has no inputs and one output, place 0.", EdgeTermsTest::coinbaseOutputs);
        CHECKS.sentence("Terms", "BLOCKS 1 .. 23 (0 is the GENESIS)", EdgeTermsTest::blocks);
        CHECKS.sentence("Terms", "a work 1 .. 15", EdgeTermsTest::works);
        CHECKS.sentence("Terms", "at most 3 transactions in order", EdgeTermsTest::threeTransactions);
        CHECKS.sentence("Terms", "A block is DRAFT from its making until it is submitted.", EdgeTermsTest::drafts);
        CHECKS.sentence("Terms", "The genesis is submitted from the start", EdgeTermsTest::genesisIsSubmitted);
        CHECKS.sentence("Terms", "its height is 0, its work 0", EdgeTermsTest::genesisHeightAndWork);
        CHECKS.sentence("Terms", "its coinbase has the amount 50 and the lock 1, it has no transactions.", EdgeTermsTest::genesisContent);
        CHECKS.end();
    }

    private static void due(String what, long got, long want) {
        CHECKS.due(what, got, want);
    }

    private static void due(String what, boolean got, boolean want) {
        CHECKS.due(what, got, want);
    }

    /** Calls of all 15 kinds, which leave block 9 a draft with the empty transaction 31 and nothing else. */
    private static void callAllKinds(ChainNode x, int times) {
        for (int i = 0; i < times; i++) {
            x.input(0, 56, 0, 0);
            x.output(0, 0, 0);
            x.seal(31);
            x.offer(31);
            x.block(9, 0, 1);
            x.include(9, 31);
            x.reward(9, 1, 1);
            x.submit(0);
            x.mine(9, 16, 1);
            x.tip();
            x.count(4);
            x.at(0);
            x.unspent(32, 0);
            x.pooled(0);
            x.depth(32);
        }
    }

    private static void lastCalls() {
        ChainNode x = new ChainNode();
        callAllKinds(x, 33);
        due("call 496", x.mine(1, 1, 1), 0);
        due("call 497", x.mine(2, 1, 1), 0);
        due("call 498", x.input(0, 32, 0, 0), 1);
        due("call 499", x.output(0, 50, 1), 1);
        due("call 500", x.seal(0), 2);
        due("call 501", x.offer(0), true);
        due("call 502", x.mine(3, 1, 1), 1);
        due("call 503", x.block(4, 2, 9), 1);
        due("call 504", x.submit(4), 1);
        due("call 505", x.pooled(0), 0);
        due("call 506", x.mine(5, 1, 1), 1);
        due("call 507", x.submit(9), 0);
        due("call 508", x.depth(0), 1);
        due("call 509", x.unspent(32, 0), 0);
        due("call 510", x.at(3), 4);
        due("call 511", x.tip(), 5);
        due("call 512", x.count(4), 250);
    }

    /** Free, but they must come back, and the same for the same calls: LANGUAGE.md, rules 7 and 11. */
    private static void laterCalls() {
        ChainNode x = new ChainNode();
        ChainNode y = new ChainNode();
        Calls.gatherThousand(x);
        Calls.gatherThousand(y);
        callAllKinds(x, 1000);
        callAllKinds(y, 1000);
        due("the same answers", Calls.digest(x), Calls.digest(y));
    }

    private static void transactions() {
        for (int t = 0; t <= 31; t++) {
            ChainNode x = new ChainNode();
            x.mine(1, 1, 1);
            due("input of " + t, x.input(t, 32, 0, 0), 1);
            due("output of " + t, x.output(t, 50, 1), 1);
            due("seal of " + t, x.seal(t), 2);
            due("offer of " + t, x.offer(t), true);
            x.block(2, 1, 1);
            due("include of " + t, x.include(2, t), 1);
            x.submit(2);
            due("unspent of " + t, x.unspent(t, 0), 50);
            due("depth of " + t, x.depth(t), 1);
            for (int other = 0; other <= 31; other++) {
                due(other + " beside " + t, x.seal(other), other == t ? REFUSED : 0);
            }
        }
        for (int t : Calls.outside(0, 31)) {
            ChainNode x = new ChainNode();
            x.block(2, 0, 1);
            due("input of " + t, x.input(t, 32, 0, 0), REFUSED);
            due("output of " + t, x.output(t, 50, 1), REFUSED);
            due("seal of " + t, x.seal(t), REFUSED);
            due("offer of " + t, x.offer(t), false);
            due("include of " + t, x.include(2, t), REFUSED);
        }
    }

    private static void twoInputs() {
        for (int t = 0; t <= 31; t++) {
            ChainNode x = new ChainNode();
            due("first", x.input(t, 32, 0, 0), 1);
            due("second", x.input(t, 33, 0, 0), 2);
            due("third", x.input(t, 34, 0, 0), FULL);
            due("fourth", x.input(t, 34, 0, 0), FULL);
            due("in all", x.seal(t), 2);
        }
        ChainNode x = new ChainNode();
        Calls.mineAll(x, 1, 4);
        x.input(0, 32, 0, 0);
        x.input(0, 33, 0, 0);
        x.input(0, 34, 0, 0);
        x.output(0, 100, 1);
        x.seal(0);
        x.offer(0);
        x.mine(5, 1, 1);
        due("the first is spent", x.unspent(32, 0), 0);
        due("the second is spent", x.unspent(33, 0), 0);
        due("the third is not", x.unspent(34, 0), 50);
    }

    private static void namedOutputs() {
        for (int from = 0; from <= 55; from++) {
            ChainNode x = new ChainNode();
            due("place 0 of " + from, x.input(0, from, 0, 0), 1);
            due("place 1 of " + from, x.input(0, from, 1, 0), 2);
        }
        ChainNode x = new ChainNode();
        for (int from : Calls.outside(0, 55)) {
            due("place 0 of " + from, x.input(0, from, 0, 0), REFUSED);
            due("place 1 of " + from, x.input(0, from, 1, 0), REFUSED);
        }
        for (int place : Calls.outside(0, 1)) {
            due("place " + place + " of 0", x.input(0, 0, place, 0), REFUSED);
            due("place " + place + " of 32", x.input(0, 32, place, 0), REFUSED);
            due("place " + place + " of 55", x.input(0, 55, place, 0), REFUSED);
        }
        due("nothing was added", x.seal(0), 0);
    }

    /** The lock 0 leaves the witness as it is, so each one but 0 opens it. */
    private static void witnesses() {
        int[] all = {1, -1, 2, 1 << 8, 1 << 16, 1 << 30, Integer.MIN_VALUE, Integer.MIN_VALUE + 1, Integer.MAX_VALUE};
        for (int witness : all) {
            due("alone " + witness, opened(0, witness, 1), true);
            due("first " + witness, opened(0, witness, 0), false);
            due("second " + witness, opened(0, 0, witness), false);
        }
        due("0", opened(0, 0, 0), false);
        due("the greatest is as it was told", opened(0x6142, Integer.MAX_VALUE, -1), true);
        due("the greatest but one is another", opened(0x6142, Integer.MAX_VALUE - 1, -1), false);
    }

    /** Whether two coinbases with this lock are opened by the two witnesses. */
    private static boolean opened(int lock, int first, int second) {
        ChainNode x = new ChainNode();
        x.mine(1, 1, lock);
        x.mine(2, 1, lock);
        x.mine(3, 1, 1);
        x.input(0, 33, 0, first);
        x.input(0, 34, 0, second);
        x.output(0, 1, 1);
        x.seal(0);
        return x.offer(0);
    }

    private static void twoOutputs() {
        for (int t = 0; t <= 31; t++) {
            ChainNode x = new ChainNode();
            x.mine(1, 1, 1);
            x.input(t, 32, 0, 0);
            due("first", x.output(t, 10, 1), 1);
            due("second", x.output(t, 20, 1), 2);
            due("third", x.output(t, 15, 1), FULL);
            due("fourth", x.output(t, 15, 1), FULL);
            due("in all", x.seal(t), 3);
            x.offer(t);
            x.mine(2, 1, 1);
            due("place 0 of " + t, x.unspent(t, 0), 10);
            due("place 1 of " + t, x.unspent(t, 1), 20);
            due("the fee says that there is no third", x.unspent(34, 0), 70);
        }
    }

    private static void amounts() {
        for (int amount = 1; amount <= 1000; amount++) {
            ChainNode x = new ChainNode();
            due("amount " + amount, x.output(0, amount, 1), 1);
        }
        ChainNode x = new ChainNode();
        for (int amount : Calls.outside(1, 1000)) {
            due("amount " + amount, x.output(0, amount, 1), REFUSED);
        }
        due("nothing was added", x.seal(0), 0);
        ChainNode y = new ChainNode();
        Calls.gatherThousand(y);
        due("1000 is held", y.unspent(18, 0), 1000);
        Calls.split(y, 19, 18, 0, 1, 999);
        y.offer(19);
        y.mine(22, 1, 1);
        due("1 is held", y.unspent(19, 0), 1);
        due("999 is held", y.unspent(19, 1), 999);
    }

    private static void locks() {
        int ones = 0x11111111;
        for (int code = 0; code < 8; code++) {
            int shift = 4 * code;
            int cut = ones & ~(-1 << shift);
            due("13 is code " + code, payThrough(cut | 13 << shift, 5), false);
            due("1 is code " + code, payThrough(cut | 1 << shift, 5), true);
        }
        due("smallest, whose first code is 0", payThrough(Integer.MIN_VALUE, 1), true);
        due("smallest, whose first code is 0", payThrough(Integer.MIN_VALUE, 0), false);
        due("-1, whose second code finds an empty stack", payThrough(-1, 1), false);
        due("greatest, the same", payThrough(Integer.MAX_VALUE, 1), false);
    }

    /** Whether an output with this lock, of a transaction, at both places, is opened by the witness. */
    private static boolean payThrough(int lock, int witness) {
        ChainNode x = new ChainNode();
        x.mine(1, 1, 1);
        x.input(0, 32, 0, 0);
        x.output(0, 25, lock);
        x.output(0, 25, lock);
        x.seal(0);
        x.offer(0);
        x.input(1, 0, 0, witness);
        x.output(1, 25, 1);
        x.seal(1);
        x.input(2, 0, 1, witness);
        x.output(2, 25, 1);
        x.seal(2);
        boolean first = x.offer(1);
        boolean second = x.offer(2);
        due("both places have the lock " + Integer.toHexString(lock), first, second);
        return first;
    }

    private static void openUntilSealed() {
        ChainNode x = new ChainNode();
        x.mine(1, 1, 1);
        x.block(2, 1, 1);
        x.input(0, 32, 0, 0);
        due("open: not offered", x.offer(0), false);
        due("open: not included", x.include(2, 0), REFUSED);
        x.output(0, 49, 1);
        due("open and whole: not offered", x.offer(0), false);
        due("open and whole: not included", x.include(2, 0), REFUSED);
        due("still open", x.output(0, 1, 1), 2);
        due("sealed", x.seal(0), 3);
        due("sealed: no input", x.input(0, 33, 0, 0), REFUSED);
        due("sealed: no output", x.output(0, 1, 1), REFUSED);
        due("sealed: not again", x.seal(0), REFUSED);
        due("sealed: included", x.include(2, 0), 1);
        due("sealed: offered", x.offer(0), true);
    }

    private static void emptyAtFirst() {
        ChainNode x = new ChainNode();
        for (int t = 0; t <= 31; t++) {
            due("seal of " + t, x.seal(t), 0);
        }
        ChainNode y = new ChainNode();
        for (int t = 0; t <= 31; t++) {
            due("first input of " + t, y.input(t, 32, 0, 0), 1);
            due("first output of " + t, y.output(t, 1, 1), 1);
        }
    }

    private static void coinbaseNumbers() {
        for (int b = 1; b <= 23; b++) {
            ChainNode x = new ChainNode();
            due("not yet " + b, x.unspent(32 + b, 0), 0);
            Calls.send(x, b, 0, 15);
            for (int other = 0; other <= 55; other++) {
                boolean there = other == 32 || other == 32 + b;
                due("unspent " + other + " after " + b, x.unspent(other, 0), there ? 50 : 0);
                due("depth " + other + " after " + b, x.depth(other) > 0, there);
            }
            x.mine(b == 1 ? 2 : 1, 1, 1);
            Calls.pay(x, 0, 32 + b, 0, 50);
            due("spent " + b, x.offer(0), true);
        }
        ChainNode x = new ChainNode();
        x.mine(1, 1, 1);
        Calls.pay(x, 0, 32, 0, 50);
        due("that of the genesis", x.offer(0), true);
    }

    private static void coinbaseOutputs() {
        for (int b = 1; b <= 23; b++) {
            ChainNode x = new ChainNode();
            x.mine(b, 1, 1);
            due("place 0 of " + b, x.unspent(32 + b, 0), 50);
            due("place 1 of " + b, x.unspent(32 + b, 1), 0);
            x.mine(b == 1 ? 2 : 1, 1, 1);
            x.mine(b == 3 ? 2 : 3, 1, 1);
            Calls.pay(x, 0, 32 + b, 1, 1);
            due("place 1 is not to be spent " + b, x.offer(0), false);
            x.input(1, 32 + b, 0, 0);
            x.input(1, 32 + b, 1, 1);
            x.output(1, 1, 1);
            x.seal(1);
            due("nor beside place 0 " + b, x.offer(1), false);
            due("no inputs: all coinbases are unspent", x.count(4), 200);
        }
    }

    private static void blocks() {
        for (int b = 1; b <= 23; b++) {
            ChainNode x = new ChainNode();
            x.seal(0);
            due("block " + b, x.block(b, 0, 1), 1);
            due("include " + b, x.include(b, 0), 1);
            due("made anew " + b, x.block(b, 0, 1), 1);
            due("reward " + b, x.reward(b, 49, 1), 1);
            due("submit " + b, x.submit(b), 1);
            due("tip " + b, x.tip(), b);
            due("at " + b, x.at(1), b);
            ChainNode y = new ChainNode();
            due("mine " + b, y.mine(b, 1, 1), 0);
            due("mined tip " + b, y.tip(), b);
        }
        for (int b : Calls.outside(1, 23)) {
            ChainNode x = new ChainNode();
            x.seal(0);
            due("block " + b, x.block(b, 1, 1), REFUSED);
            due("include " + b, x.include(b, 0), REFUSED);
            due("reward " + b, x.reward(b, 49, 1), REFUSED);
            due("submit " + b, x.submit(b), REFUSED);
            due("mine " + b, x.mine(b, 1, 1), REFUSED);
            due("tip after " + b, x.tip(), 0);
        }
    }

    private static void works() {
        for (int work = 1; work <= 15; work++) {
            ChainNode x = new ChainNode();
            due("block of " + work, x.block(1, 0, work), 1);
            x.submit(1);
            due("weight of " + work, x.count(1), work);
            due("mine of " + work, x.mine(2, work, 1), 0);
            due("weight of twice " + work, x.count(1), 2 * work);
        }
        ChainNode x = new ChainNode();
        for (int work : Calls.outside(1, 15)) {
            due("block of " + work, x.block(1, 0, work), REFUSED);
            due("mine of " + work, x.mine(1, work, 1), REFUSED);
        }
        due("no draft was made", x.submit(1), REFUSED);
        due("no block was mined", x.tip(), 0);
    }

    private static void threeTransactions() {
        ChainNode x = new ChainNode();
        x.mine(1, 1, 1);
        Calls.payOn(x, 0, 5);
        x.block(2, 1, 1);
        due("first", x.include(2, 0), 1);
        due("second", x.include(2, 1), 2);
        due("third", x.include(2, 2), 3);
        due("fourth", x.include(2, 3), FULL);
        due("fifth", x.include(2, 4), FULL);
        due("in order: the block is good", x.submit(2), 1);
        due("the third is in it", x.depth(2), 1);
        due("the fourth is not", x.depth(3), 0);
        due("out of order: 4 3", Calls.send(x, 3, 2, 9, 4, 3), 0);
        due("in order: 3 4", Calls.send(x, 4, 2, 1, 3, 4), 1);
        for (int b = 1; b <= 23; b++) {
            ChainNode y = new ChainNode();
            Calls.pay(y, 0, 32, 0, 50);
            y.block(b, 23 - b == b ? 0 : 23 - b, 1);
            due("three in " + b, y.include(b, 0) + y.include(b, 0) + y.include(b, 0), 1 + 2 + 3);
            due("no fourth in " + b, y.include(b, 0), FULL);
        }
    }

    private static void drafts() {
        ChainNode x = new ChainNode();
        x.seal(0);
        for (int b = 1; b <= 23; b++) {
            dueNoDraft("not made", x, b);
        }
        x.block(5, 0, 2);
        due("draft: include", x.include(5, 0), 1);
        due("draft: reward", x.reward(5, 1, 1), 1);
        x.block(5, 0, 2);
        due("draft made anew: include", x.include(5, 0), 1);
        x.block(5, 0, 2);
        due("draft: submit", x.submit(5), 1);
        dueNoDraft("the tip", x, 5);
        Calls.send(x, 6, 0, 1);
        dueNoDraft("beside the chain", x, 6);
        Calls.send(x, 7, 8, 1);
        dueNoDraft("not connected", x, 7);
        Calls.send(x, 9, 5, 1, 0);
        dueNoDraft("not good", x, 9);
        x.mine(10, 1, 1);
        dueNoDraft("mined", x, 10);
        dueNoDraft("below the tip", x, 5);
    }

    private static void dueNoDraft(String what, ChainNode x, int block) {
        due(what + ": include in " + block, x.include(block, 0), REFUSED);
        due(what + ": reward of " + block, x.reward(block, 1, 1), REFUSED);
        due(what + ": submit " + block, x.submit(block), REFUSED);
    }

    private static void genesisIsSubmitted() {
        ChainNode x = new ChainNode();
        x.seal(0);
        dueNoDraft("the genesis", x, 0);
        due("not made", x.block(0, 1, 1), REFUSED);
        due("not mined", x.mine(0, 1, 1), REFUSED);
        due("connected", x.count(2), 0);
        due("a block on it is connected at once", Calls.send(x, 1, 0, 1), 1);
    }

    private static void genesisHeightAndWork() {
        ChainNode x = new ChainNode();
        due("height", x.count(0), 0);
        due("weight", x.count(1), 0);
        due("at 0", x.at(0), 0);
        Calls.send(x, 23, 0, 1);
        due("height of a block on it", x.count(0), 1);
        due("weight of a block on it", x.count(1), 1);
        due("still at 0", x.at(0), 0);
    }

    private static void genesisContent() {
        ChainNode x = new ChainNode();
        due("amount", x.unspent(32, 0), 50);
        due("place 1", x.unspent(32, 1), 0);
        due("all amounts", x.count(4), 50);
        for (int t = 0; t <= 31; t++) {
            due("transaction " + t, x.depth(t), 0);
        }
        due("its coinbase is in it", x.depth(32), 1);
        int[] witnesses = {0, 1, -1, Integer.MIN_VALUE};
        for (int witness : witnesses) {
            ChainNode y = new ChainNode();
            y.mine(1, 1, 0);
            Calls.spend(y, 0, 32, witness, 50);
            due("the lock is opened by " + witness, y.offer(0), true);
        }
    }
}
