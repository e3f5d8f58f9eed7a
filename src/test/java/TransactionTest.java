/** Promises 2, 3 and 4: input, output, seal, with the part of promise 17 that speaks of them. */
public final class TransactionTest {
    private static final Checks CHECKS = new Checks();

    public static void main(String[] args) {
        inputs();
        outputs();
        seals();
        refusedBeforeFull();
        refusalsChangeNothing();
        CHECKS.end();
    }

    private static void inputs() {
        ChainNode x = new ChainNode();
        CHECKS.due("2: first input", x.input(0, 32, 0, 7), 1);
        CHECKS.due("2: second input", x.input(0, 55, 1, Integer.MIN_VALUE), 2);
        CHECKS.due("2: third input", x.input(0, 32, 0, 7), ChainNode.FULL);
        CHECKS.due("2: last transaction", x.input(31, 0, 0, -1), 1);
        CHECKS.due("2: it may name itself", x.input(31, 31, 1, 0), 2);
        CHECKS.due("2: transaction -1", x.input(-1, 32, 0, 7), ChainNode.REFUSED);
        CHECKS.due("2: transaction 32", x.input(32, 32, 0, 7), ChainNode.REFUSED);
        CHECKS.due("2: transaction smallest", x.input(Integer.MIN_VALUE, 32, 0, 7), ChainNode.REFUSED);
        CHECKS.due("2: transaction greatest", x.input(Integer.MAX_VALUE, 32, 0, 7), ChainNode.REFUSED);
        CHECKS.due("2: from -1", x.input(1, -1, 0, 7), ChainNode.REFUSED);
        CHECKS.due("2: from 56", x.input(1, 56, 0, 7), ChainNode.REFUSED);
        CHECKS.due("2: place -1", x.input(1, 32, -1, 7), ChainNode.REFUSED);
        CHECKS.due("2: place 2", x.input(1, 32, 2, 7), ChainNode.REFUSED);
        x.seal(2);
        CHECKS.due("2: sealed", x.input(2, 32, 0, 7), ChainNode.REFUSED);
    }

    private static void outputs() {
        ChainNode x = new ChainNode();
        CHECKS.due("3: least amount", x.output(0, 1, 0), 1);
        CHECKS.due("3: greatest amount", x.output(0, 1000, -1), 2);
        CHECKS.due("3: third output", x.output(0, 1, 0), ChainNode.FULL);
        CHECKS.due("3: last transaction", x.output(31, 5, 0), 1);
        CHECKS.due("3: amount 0", x.output(1, 0, 1), ChainNode.REFUSED);
        CHECKS.due("3: amount -1", x.output(1, -1, 1), ChainNode.REFUSED);
        CHECKS.due("3: amount 1001", x.output(1, 1001, 1), ChainNode.REFUSED);
        CHECKS.due("3: amount smallest", x.output(1, Integer.MIN_VALUE, 1), ChainNode.REFUSED);
        CHECKS.due("3: transaction -1", x.output(-1, 1, 1), ChainNode.REFUSED);
        CHECKS.due("3: transaction 32", x.output(32, 1, 1), ChainNode.REFUSED);
        x.seal(2);
        CHECKS.due("3: sealed", x.output(2, 1, 1), ChainNode.REFUSED);
    }

    private static void seals() {
        ChainNode x = new ChainNode();
        CHECKS.due("4: an empty one", x.seal(0), 0);
        CHECKS.due("4: once more", x.seal(0), ChainNode.REFUSED);
        x.input(31, 32, 0, 0);
        CHECKS.due("4: one input", x.seal(31), 1);
        x.input(2, 32, 0, 0);
        x.input(2, 33, 0, 0);
        x.output(2, 1, 1);
        CHECKS.due("4: two inputs, one output", x.seal(2), 3);
        x.input(3, 32, 0, 0);
        x.input(3, 33, 0, 0);
        x.output(3, 1, 1);
        x.output(3, 1, 1);
        CHECKS.due("4: all four", x.seal(3), 4);
        CHECKS.due("4: transaction -1", x.seal(-1), ChainNode.REFUSED);
        CHECKS.due("4: transaction 32", x.seal(32), ChainNode.REFUSED);
    }

    private static void refusedBeforeFull() {
        ChainNode x = new ChainNode();
        x.input(0, 32, 0, 0);
        x.input(0, 33, 0, 0);
        x.output(0, 1, 1);
        x.output(0, 1, 1);
        CHECKS.due("17: full input, from 56", x.input(0, 56, 0, 0), ChainNode.REFUSED);
        CHECKS.due("17: full input, place 2", x.input(0, 32, 2, 0), ChainNode.REFUSED);
        CHECKS.due("17: full output, amount 0", x.output(0, 0, 1), ChainNode.REFUSED);
        CHECKS.due("17: full output, amount 1001", x.output(0, 1001, 1), ChainNode.REFUSED);
        x.seal(0);
        CHECKS.due("17: full and sealed input", x.input(0, 32, 0, 0), ChainNode.REFUSED);
        CHECKS.due("17: full and sealed output", x.output(0, 1, 1), ChainNode.REFUSED);
    }

    private static void refusalsChangeNothing() {
        ChainNode x = new ChainNode();
        Calls.mineAll(x, 1, 3);
        x.input(0, 32, 0, 0);
        x.input(0, 56, 0, 0);
        x.input(0, 33, 2, 0);
        CHECKS.due("17: one input yet", x.input(0, 33, 0, 0), 2);
        x.input(0, 34, 0, 0);
        x.output(0, 1001, 1);
        CHECKS.due("17: no output yet", x.output(0, 60, Calls.FREE), 1);
        CHECKS.due("17: one output", x.output(0, 40, Calls.FREE), 2);
        x.output(0, 1, Calls.NEVER);
        CHECKS.due("17: sealed with four", x.seal(0), 4);
        x.input(0, 34, 0, 0);
        x.output(0, 1, Calls.NEVER);
        CHECKS.due("17: fits as it was sealed", x.offer(0), true);
        x.mine(4, 1, Calls.FREE);
        CHECKS.due("17: first input spent", x.unspent(32, 0), 0);
        CHECKS.due("17: second input spent", x.unspent(33, 0), 0);
        CHECKS.due("17: refused input not spent", x.unspent(34, 0), 50);
        CHECKS.due("17: first output", x.unspent(0, 0), 60);
        CHECKS.due("17: second output", x.unspent(0, 1), 40);
    }
}
