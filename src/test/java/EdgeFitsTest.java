import java.util.function.Consumer;

/** Sentence by sentence: which outputs are unspent and which transactions fit, in the pool and in a block. */
public final class EdgeFitsTest {
    private static final Checks CHECKS = new Checks();

    public static void main(String[] args) {
        CHECKS.sentence("Terms", "an output is UNSPENT if its transaction (or coinbase) is in a block of the chain", EdgeFitsTest::inTheChain);
        CHECKS.sentence("Terms", "and no transaction of the chain has it as an input.", EdgeFitsTest::noInputOfTheChain);
        CHECKS.sentence("Terms", "it is sealed", EdgeFitsTest::sealed);
        CHECKS.sentence("Terms", "and has an input and an output", EdgeFitsTest::inputAndOutput);
        CHECKS.sentence("Terms", "T is not in that list", EdgeFitsTest::notInTheList);
        CHECKS.sentence("Terms", "its inputs name different outputs", EdgeFitsTest::differentOutputs);
        CHECKS.sentence("Terms", "each of them unspent after that list", EdgeFitsTest::unspentAfterTheList);
        CHECKS.sentence("Terms", "if it is a coinbase's, h is at least the height of that block + 2", EdgeFitsTest::ripeCoinbases);
        CHECKS.sentence("Terms", "each input's witness opens its output at h", EdgeFitsTest::openedByEachWitness);
        CHECKS.sentence("Terms", "the sum of the amounts of its outputs is not more than that of the outputs it spends", EdgeFitsTest::sums);
        CHECKS.sentence("Terms", "(the difference is its FEE)", EdgeFitsTest::fees);
        CHECKS.end();
    }

    private static void due(String what, long got, long want) {
        CHECKS.due(what, got, want);
    }

    private static void due(String what, boolean got, boolean want) {
        CHECKS.due(what, got, want);
    }

    /** The pool and a block on the tip must be of one mind about the transaction. */
    private static void fits(String what, Consumer<ChainNode> before, int transaction, boolean want) {
        ChainNode x = new ChainNode();
        before.accept(x);
        due(what + ", offered", x.offer(transaction), want);
        ChainNode y = new ChainNode();
        before.accept(y);
        due(what + ", in a block", Calls.send(y, 23, y.tip(), 15, transaction), want ? 1 : 0);
    }

    private static void inTheChain() {
        ChainNode x = new ChainNode();
        Calls.mineAll(x, 1, 2);
        Calls.split(x, 0, 32, 0, 20, 30);
        due("in no block", x.unspent(0, 0), 0);
        x.block(3, 2, 1);
        x.include(3, 0);
        due("in a draft", x.unspent(0, 0), 0);
        due("coinbase of a draft", x.unspent(35, 0), 0);
        x.offer(0);
        due("in the pool", x.unspent(0, 1), 0);
        Calls.send(x, 4, 1, 1, 0);
        due("in a block beside the chain", x.unspent(0, 0), 0);
        due("coinbase beside the chain", x.unspent(36, 0), 0);
        Calls.send(x, 5, 9, 1, 0);
        due("coinbase of a block that is not connected", x.unspent(37, 0), 0);
        x.submit(3);
        due("in the chain", x.unspent(0, 0), 20);
        due("in the chain, place 1", x.unspent(0, 1), 30);
        due("coinbase in the chain", x.unspent(35, 0), 50);
        Calls.send(x, 6, 2, 15);
        due("given up", x.unspent(0, 0), 0);
        due("given up coinbase", x.unspent(35, 0), 0);
        due("what both chains have", x.unspent(34, 0), 50);
    }

    private static void noInputOfTheChain() {
        ChainNode x = new ChainNode();
        Calls.mineAll(x, 1, 2);
        Calls.split(x, 0, 32, 0, 20, 30);
        Calls.pay(x, 1, 0, 0, 20);
        Calls.pay(x, 2, 0, 1, 30);
        x.offer(0);
        due("an input of the pool", x.unspent(32, 0), 50);
        Calls.send(x, 3, 1, 1, 0);
        due("an input beside the chain", x.unspent(32, 0), 50);
        Calls.send(x, 4, 2, 1, 0, 1);
        due("an input of the chain", x.unspent(32, 0), 0);
        due("an input in the same block", x.unspent(0, 0), 0);
        due("its other place", x.unspent(0, 1), 30);
        due("the spender's output", x.unspent(1, 0), 20);
        Calls.send(x, 5, 4, 1, 2);
        due("an input at the second place", x.unspent(0, 1), 0);
        Calls.send(x, 6, 4, 15);
        due("that block is given up", x.unspent(0, 1), 30);
        Calls.send(x, 7, 2, 15);
        Calls.send(x, 8, 7, 15);
        due("all spenders are given up", x.unspent(32, 0), 50);
    }

    private static void sealed() {
        ChainNode x = new ChainNode();
        Calls.mineAll(x, 1, 2);
        x.input(0, 32, 0, 0);
        x.output(0, 50, 1);
        due("all but sealed", x.offer(0), false);
        x.block(3, 2, 1);
        due("all but sealed, in a block", x.include(3, 0), ChainNode.REFUSED);
        x.seal(0);
        due("sealed", x.offer(0), true);
        due("sealed, in a block", x.include(3, 0), 1);
    }

    private static void inputAndOutput() {
        fits("neither", x -> {
            Calls.mineAll(x, 1, 3);
            x.seal(0);
        }, 0, false);
        fits("an input alone", x -> {
            Calls.mineAll(x, 1, 3);
            x.input(0, 32, 0, 0);
            x.seal(0);
        }, 0, false);
        fits("two inputs alone", x -> {
            Calls.mineAll(x, 1, 3);
            x.input(0, 32, 0, 0);
            x.input(0, 33, 0, 0);
            x.seal(0);
        }, 0, false);
        fits("an output alone", x -> {
            Calls.mineAll(x, 1, 3);
            x.output(0, 1, 1);
            x.seal(0);
        }, 0, false);
        fits("two outputs alone", x -> {
            Calls.mineAll(x, 1, 3);
            x.output(0, 1, 1);
            x.output(0, 1, 1);
            x.seal(0);
        }, 0, false);
        fits("one of both", x -> {
            Calls.mineAll(x, 1, 3);
            Calls.pay(x, 0, 32, 0, 50);
        }, 0, true);
        fits("two of both", x -> {
            Calls.mineAll(x, 1, 3);
            x.input(0, 32, 0, 0);
            x.input(0, 33, 0, 0);
            x.output(0, 50, 1);
            x.output(0, 50, 1);
            x.seal(0);
        }, 0, true);
    }

    /** One that is in the list has spent its own inputs there, so two sentences forbid it. */
    private static void notInTheList() {
        ChainNode x = new ChainNode();
        Calls.mineAll(x, 1, 2);
        Calls.pay(x, 0, 32, 0, 50);
        due("first", x.offer(0), true);
        due("in the pool", x.offer(0), false);
        due("once in the pool", x.count(3), 1);
        due("twice in a block", Calls.send(x, 3, 2, 15, 0, 0), 0);
        due("once in a block", Calls.send(x, 4, 2, 1, 0), 1);
        due("in the chain, offered", x.offer(0), false);
        due("in the chain, in a block", Calls.send(x, 5, 4, 15, 0), 0);
        due("on another branch", Calls.send(x, 6, 2, 9, 0), 1);
        due("there too it is in the chain", x.offer(0), false);
        Calls.send(x, 7, 2, 15);
        due("given up, it is in the pool again", x.pooled(0), 0);
    }

    private static void differentOutputs() {
        fits("the same coinbase twice", x -> {
            Calls.mineAll(x, 1, 3);
            Calls.join(x, 0, 32, 32, 50);
        }, 0, false);
        fits("the same coinbase with other witnesses", x -> {
            Calls.mineAll(x, 1, 3);
            x.input(0, 32, 0, 1);
            x.input(0, 32, 0, 2);
            x.output(0, 50, 1);
            x.seal(0);
        }, 0, false);
        fits("two coinbases", x -> {
            Calls.mineAll(x, 1, 3);
            Calls.join(x, 0, 32, 33, 100);
        }, 0, true);
        fits("the same place of a transaction twice", x -> {
            Calls.mineAll(x, 1, 2);
            Calls.split(x, 1, 32, 0, 25, 25);
            Calls.send(x, 3, 2, 1, 1);
            Calls.join(x, 0, 1, 1, 25);
        }, 0, false);
        fits("both places of a transaction", x -> {
            Calls.mineAll(x, 1, 2);
            Calls.split(x, 1, 32, 0, 25, 25);
            Calls.send(x, 3, 2, 1, 1);
            x.input(0, 1, 0, 0);
            x.input(0, 1, 1, 0);
            x.output(0, 50, 1);
            x.seal(0);
        }, 0, true);
    }

    private static void unspentAfterTheList() {
        fits("spent in the chain", x -> {
            Calls.mineAll(x, 1, 2);
            Calls.pay(x, 1, 32, 0, 50);
            Calls.send(x, 3, 2, 1, 1);
            Calls.pay(x, 0, 32, 0, 50);
        }, 0, false);
        fits("the second input is spent in the chain", x -> {
            Calls.mineAll(x, 1, 3);
            Calls.pay(x, 1, 32, 0, 50);
            Calls.send(x, 4, 3, 1, 1);
            Calls.join(x, 0, 33, 32, 50);
        }, 0, false);
        fits("never made", x -> {
            Calls.mineAll(x, 1, 3);
            Calls.pay(x, 1, 32, 0, 50);
            Calls.pay(x, 0, 1, 0, 50);
        }, 0, false);
        fits("its own", x -> {
            Calls.mineAll(x, 1, 3);
            Calls.pay(x, 0, 0, 0, 50);
        }, 0, false);
        fits("a place that its transaction lacks", x -> {
            Calls.mineAll(x, 1, 2);
            Calls.pay(x, 1, 32, 0, 50);
            Calls.send(x, 3, 2, 1, 1);
            x.input(0, 1, 1, 1);
            x.input(0, 1, 0, 1);
            x.output(0, 1, 1);
            x.seal(0);
        }, 0, false);
        fits("made beside the chain", x -> {
            Calls.mineAll(x, 1, 3);
            Calls.pay(x, 1, 32, 0, 50);
            Calls.send(x, 4, 1, 1, 1);
            Calls.pay(x, 0, 1, 0, 50);
        }, 0, false);
        fits("spent beside the chain", x -> {
            Calls.mineAll(x, 1, 3);
            Calls.pay(x, 1, 32, 0, 50);
            Calls.send(x, 4, 1, 1, 1);
            Calls.pay(x, 0, 32, 0, 50);
        }, 0, true);
        fits("the coinbase of a block beside the chain", x -> {
            Calls.mineAll(x, 1, 3);
            Calls.send(x, 4, 0, 1);
            Calls.pay(x, 0, 36, 0, 50);
        }, 0, false);
        fits("the coinbase of the block that it would be in", x -> {
            Calls.mineAll(x, 1, 3);
            Calls.pay(x, 0, 55, 0, 50);
        }, 0, false);
        unspentAfterThePool();
    }

    private static void unspentAfterThePool() {
        ChainNode x = new ChainNode();
        Calls.mineAll(x, 1, 2);
        Calls.payOn(x, 0, 3);
        Calls.pay(x, 5, 32, 0, 49);
        due("not yet in the pool", x.offer(1), false);
        due("the first", x.offer(0), true);
        due("spent in the pool", x.offer(5), false);
        due("made in the pool", x.offer(1), true);
        due("not yet in the block", Calls.send(x, 3, 2, 15, 1, 0), 0);
        due("spent in the block", Calls.send(x, 4, 2, 15, 0, 5), 0);
        due("the pool is not the block's", Calls.send(x, 5, 2, 15, 1), 0);
        due("made and spent in the block", Calls.send(x, 6, 2, 15, 0, 1, 2), 1);
    }

    /** The coinbase of the block at height b is tried at every height; 0 is the genesis. */
    private static void ripeCoinbases() {
        for (int b = 0; b <= 20; b++) {
            for (int tip = b; tip <= 21 && tip <= b + 3; tip++) {
                int block = b;
                int top = tip;
                fits("coinbase of height " + b + " at " + (tip + 1), x -> {
                    Calls.mineAll(x, 1, top);
                    Calls.pay(x, 0, 32 + block, 0, 50);
                }, 0, tip + 1 >= b + 2);
            }
        }
        fits("the second input is unripe", x -> {
            Calls.mineAll(x, 1, 3);
            Calls.join(x, 0, 32, 35, 50);
        }, 0, false);
        ChainNode x = new ChainNode();
        Calls.mineAll(x, 1, 1);
        Calls.payOn(x, 0, 3);
        due("an output of a transaction has no age", Calls.send(x, 2, 1, 1, 0, 1, 2), 1);
        ChainNode y = new ChainNode();
        Calls.send(y, 9, 0, 1);
        Calls.send(y, 4, 9, 1);
        Calls.pay(y, 0, 36, 0, 50);
        Calls.pay(y, 1, 41, 0, 50);
        due("the height counts, not the number: 2 at 3", y.offer(0), false);
        due("the height counts, not the number: 1 at 3", y.offer(1), true);
    }

    private static void openedByEachWitness() {
        fits("both", x -> lockTwo(x, 2, 2), 0, true);
        fits("the first alone", x -> lockTwo(x, 2, 1), 0, false);
        fits("the second alone", x -> lockTwo(x, 1, 2), 0, false);
        fits("neither", x -> lockTwo(x, 1, 1), 0, false);
        ChainNode x = new ChainNode();
        x.mine(1, 1, 0x7A);
        x.mine(2, 1, 1);
        Calls.spend(x, 0, 33, 3, 50);
        due("3 is not less than 3", x.offer(0), false);
        due("nor in a block of height 3", Calls.send(x, 3, 2, 1, 0), 0);
        x.mine(4, 1, 1);
        due("3 is less than 4", x.offer(0), true);
        due("and in a block of height 4", Calls.send(x, 5, 4, 1, 0), 1);
    }

    /** Two coinbases that only the witness 2 opens, and transaction 0 that spends both. */
    private static void lockTwo(ChainNode x, int first, int second) {
        x.mine(1, 1, 0x6B);
        x.mine(2, 1, 0x6B);
        x.mine(3, 1, 1);
        x.input(0, 33, 0, first);
        x.input(0, 34, 0, second);
        x.output(0, 100, 1);
        x.seal(0);
    }

    private static void sums() {
        for (int amount = 1; amount <= 60; amount++) {
            int out = amount;
            fits("50 to " + amount, x -> {
                Calls.mineAll(x, 1, 3);
                Calls.pay(x, 0, 32, 0, out);
            }, 0, amount <= 50);
            fits("50 to 9 and " + amount, x -> {
                Calls.mineAll(x, 1, 3);
                Calls.split(x, 0, 32, 0, 9, out);
            }, 0, amount <= 41);
            fits("100 to 50 and " + amount, x -> {
                Calls.mineAll(x, 1, 3);
                x.input(0, 32, 0, 0);
                x.input(0, 33, 0, 0);
                x.output(0, 50, 1);
                x.output(0, out, 1);
                x.seal(0);
            }, 0, amount <= 50);
        }
        fits("1000 to 1000", x -> {
            Calls.gatherThousand(x);
            Calls.pay(x, 19, 18, 0, 1000);
        }, 19, true);
        fits("1000 to 1000 and 1", x -> {
            Calls.gatherThousand(x);
            Calls.split(x, 19, 18, 0, 1000, 1);
        }, 19, false);
        fits("50 to 2000", x -> {
            Calls.mineAll(x, 1, 3);
            Calls.split(x, 0, 32, 0, 1000, 1000);
        }, 0, false);
    }

    private static void fees() {
        for (int amount = 1; amount <= 50; amount++) {
            ChainNode x = new ChainNode();
            Calls.mineAll(x, 1, 1);
            Calls.pay(x, 0, 32, 0, amount);
            x.offer(0);
            x.mine(2, 1, 1);
            due("the fee of 50 to " + amount, x.unspent(34, 0) - 50, 50 - amount);
        }
        ChainNode x = new ChainNode();
        Calls.mineAll(x, 1, 2);
        x.input(0, 32, 0, 0);
        x.input(0, 33, 0, 0);
        x.output(0, 11, 1);
        x.output(0, 22, 1);
        x.seal(0);
        x.offer(0);
        x.mine(3, 1, 1);
        due("the fee of 100 to 11 and 22", x.unspent(35, 0) - 50, 67);
    }
}
