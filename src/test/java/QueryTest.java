/** Promises 1 and 11 to 16, and that questions and refused calls change nothing (17). */
public final class QueryTest {
    private static final Checks CHECKS = new Checks();
    private static final int REFUSED = ChainNode.REFUSED;

    public static void main(String[] args) {
        newObject();
        objectsAreApart();
        counts();
        heights();
        unspents();
        depths();
        refusedCallsChangeNothing();
        CHECKS.end();
    }

    private static void newObject() {
        ChainNode x = new ChainNode();
        CHECKS.due("1: tip", x.tip(), 0);
        CHECKS.due("1: height", x.count(0), 0);
        CHECKS.due("1: weight", x.count(1), 0);
        CHECKS.due("1: orphans", x.count(2), 0);
        CHECKS.due("1: pool", x.count(3), 0);
        CHECKS.due("1: unspent amounts", x.count(4), 50);
        CHECKS.due("1: the genesis is at 0", x.at(0), 0);
        CHECKS.due("1: nothing at 1", x.at(1), REFUSED);
        CHECKS.due("1: no pooled", x.pooled(0), REFUSED);
        for (int transaction = 0; transaction < 56; transaction++) {
            CHECKS.due("1: place 0 of " + transaction, x.unspent(transaction, 0), transaction == 32 ? 50 : 0);
            CHECKS.due("1: place 1 of " + transaction, x.unspent(transaction, 1), 0);
            CHECKS.due("1: depth of " + transaction, x.depth(transaction), transaction == 32 ? 1 : 0);
        }
        for (int transaction = 0; transaction < 32; transaction++) {
            CHECKS.due("1: open and empty " + transaction, x.seal(transaction), 0);
        }
        for (int block = 0; block < 24; block++) {
            CHECKS.due("1: no draft " + block, x.submit(block), REFUSED);
        }
        ChainNode y = new ChainNode();
        y.mine(1, 1, 1);
        Calls.pay(y, 0, 32, 0, 50);
        CHECKS.due("1: the genesis has the lock 1", y.offer(0), true);
    }

    private static void objectsAreApart() {
        ChainNode x = new ChainNode();
        ChainNode y = new ChainNode();
        Calls.mineAll(x, 1, 3);
        Calls.pay(x, 0, 32, 0, 50);
        x.offer(0);
        CHECKS.due("1: the other is new", Calls.digest(y), Calls.digest(new ChainNode()));
        CHECKS.due("1: its transaction is open", y.seal(0), 0);
    }

    private static void counts() {
        ChainNode x = new ChainNode();
        Calls.send(x, 1, 0, 7);
        Calls.send(x, 2, 1, 9);
        Calls.send(x, 3, 20, 9);
        Calls.send(x, 4, 0, 9);
        x.block(5, 2, 9);
        Calls.pay(x, 0, 32, 0, 45);
        x.offer(0);
        CHECKS.due("12: height", x.count(0), 2);
        CHECKS.due("12: weight", x.count(1), 16);
        CHECKS.due("12: orphans", x.count(2), 1);
        CHECKS.due("12: pool", x.count(3), 1);
        CHECKS.due("12: the pool spends nothing", x.count(4), 150);
        Calls.send(x, 6, 2, 1, 0);
        CHECKS.due("12: a fee that nobody takes is gone", x.count(4), 195);
        CHECKS.due("12: what -1", x.count(-1), REFUSED);
        CHECKS.due("12: what 5", x.count(5), REFUSED);
        CHECKS.due("12: what smallest", x.count(Integer.MIN_VALUE), REFUSED);
        CHECKS.due("12: what greatest", x.count(Integer.MAX_VALUE), REFUSED);
        ChainNode y = new ChainNode();
        for (int block = 1; block <= 23; block++) {
            y.mine(block, 15, 1);
        }
        CHECKS.due("12: the longest chain", y.count(0), 23);
        CHECKS.due("12: the heaviest chain", y.count(1), 345);
        CHECKS.due("12: all coinbases", y.count(4), 1200);
        CHECKS.due("11: its tip", y.tip(), 23);
        CHECKS.due("13: its top", y.at(23), 23);
        CHECKS.due("13: above it", y.at(24), REFUSED);
        CHECKS.due("16: its ground", y.depth(32), 24);
    }

    private static void heights() {
        ChainNode x = new ChainNode();
        x.mine(7, 1, 1);
        x.mine(3, 1, 1);
        x.mine(9, 1, 1);
        CHECKS.due("13: 0", x.at(0), 0);
        CHECKS.due("13: 1", x.at(1), 7);
        CHECKS.due("13: 2", x.at(2), 3);
        CHECKS.due("13: 3", x.at(3), 9);
        CHECKS.due("13: 4", x.at(4), REFUSED);
        CHECKS.due("13: -1", x.at(-1), REFUSED);
        CHECKS.due("13: smallest", x.at(Integer.MIN_VALUE), REFUSED);
        CHECKS.due("13: greatest", x.at(Integer.MAX_VALUE), REFUSED);
        Calls.send(x, 5, 7, 9);
        CHECKS.due("13: a shorter chain's top", x.at(2), 5);
        CHECKS.due("13: nothing above it", x.at(3), REFUSED);
        CHECKS.due("13: what both have", x.at(1), 7);
        Calls.send(x, 6, 9, 15);
        CHECKS.due("13: back again, 2", x.at(2), 3);
        CHECKS.due("13: back again, 3", x.at(3), 9);
        CHECKS.due("13: back again, 4", x.at(4), 6);
    }

    private static void unspents() {
        ChainNode x = new ChainNode();
        Calls.mineAll(x, 1, 2);
        Calls.split(x, 31, 32, 0, 20, 30);
        Calls.pay(x, 30, 31, 0, 20);
        CHECKS.due("14: in no block", x.unspent(31, 0), 0);
        x.offer(31);
        CHECKS.due("14: in the pool", x.unspent(31, 0), 0);
        x.mine(3, 1, 1);
        CHECKS.due("14: place 0", x.unspent(31, 0), 20);
        CHECKS.due("14: place 1", x.unspent(31, 1), 30);
        CHECKS.due("14: spent coinbase", x.unspent(32, 0), 0);
        CHECKS.due("14: coinbase", x.unspent(35, 0), 50);
        CHECKS.due("14: a coinbase's place 1", x.unspent(35, 1), 0);
        x.offer(30);
        x.mine(4, 1, 1);
        CHECKS.due("14: spent", x.unspent(31, 0), 0);
        CHECKS.due("14: its other place is not", x.unspent(31, 1), 30);
        CHECKS.due("14: no second output", x.unspent(30, 1), 0);
        Calls.send(x, 5, 2, 15);
        CHECKS.due("14: given up", x.unspent(31, 1), 0);
        CHECKS.due("14: unspent again", x.unspent(32, 0), 50);
        CHECKS.due("14: a given up coinbase", x.unspent(35, 0), 0);
        CHECKS.due("14: transaction -1", x.unspent(-1, 0), REFUSED);
        CHECKS.due("14: transaction 56", x.unspent(56, 0), REFUSED);
        CHECKS.due("14: place -1", x.unspent(32, -1), REFUSED);
        CHECKS.due("14: place 2", x.unspent(32, 2), REFUSED);
        CHECKS.due("14: smallest", x.unspent(Integer.MIN_VALUE, 0), REFUSED);
        CHECKS.due("14: greatest", x.unspent(0, Integer.MAX_VALUE), REFUSED);
    }

    private static void depths() {
        ChainNode x = new ChainNode();
        Calls.mineAll(x, 1, 2);
        Calls.pay(x, 0, 32, 0, 50);
        CHECKS.due("16: in no block", x.depth(0), 0);
        x.offer(0);
        CHECKS.due("16: in the pool", x.depth(0), 0);
        x.mine(3, 1, 1);
        CHECKS.due("16: in the tip", x.depth(0), 1);
        x.mine(4, 1, 1);
        CHECKS.due("16: below the tip", x.depth(0), 2);
        CHECKS.due("16: the tip's coinbase", x.depth(36), 1);
        CHECKS.due("16: the genesis' coinbase", x.depth(32), 5);
        CHECKS.due("16: no block", x.depth(55), 0);
        Calls.send(x, 5, 2, 15);
        CHECKS.due("16: given up", x.depth(0), 0);
        CHECKS.due("16: a given up coinbase", x.depth(36), 0);
        CHECKS.due("16: the new tip's", x.depth(37), 1);
        CHECKS.due("16: -1", x.depth(-1), REFUSED);
        CHECKS.due("16: 56", x.depth(56), REFUSED);
        CHECKS.due("16: smallest", x.depth(Integer.MIN_VALUE), REFUSED);
        CHECKS.due("16: greatest", x.depth(Integer.MAX_VALUE), REFUSED);
    }

    private static void refusedCallsChangeNothing() {
        ChainNode x = new ChainNode();
        Calls.mineAll(x, 1, 3);
        Calls.pay(x, 0, 32, 0, 50);
        x.offer(0);
        Calls.send(x, 9, 10, 1);
        long before = Calls.digest(x);
        int[] numbers = {-1, 0, 1, 9, 24, 32, 56, Integer.MIN_VALUE, Integer.MAX_VALUE};
        for (int number : numbers) {
            x.submit(number);
            x.mine(number, 0, 1);
            x.mine(number, 16, 1);
            x.block(number, number, 1);
            x.block(number, 0, 0);
            x.reward(number, 0, 1);
            x.include(number, 32);
            x.input(0, number, 0, 0);
            x.output(number, 0, 1);
            x.offer(number);
            x.pooled(number);
            x.count(number);
        }
        CHECKS.due("17: nothing changed", Calls.digest(x), before);
    }
}
