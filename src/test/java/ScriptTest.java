/** The lock scripts, seen through offer: promise 5 and the terms. */
public final class ScriptTest {
    private static final Checks CHECKS = new Checks();
    private static final int LEAST = Integer.MIN_VALUE;
    private static final int MOST = Integer.MAX_VALUE;

    public static void main(String[] args) {
        endings();
        pushes();
        sums();
        comparisons();
        moves();
        tooFew();
        sizes();
        wholeLocks();
        heights();
        CHECKS.end();
    }

    /** Whether the lock is opened by the witness at height 3. */
    private static boolean opened(int lock, int witness) {
        ChainNode x = new ChainNode();
        x.mine(1, 1, lock);
        x.mine(2, 1, 1);
        x.input(0, 33, 0, witness);
        x.output(0, 1, 1);
        x.seal(0);
        return x.offer(0);
    }

    private static void due(String name, int lock, int witness, boolean want) {
        CHECKS.due("lock " + Integer.toHexString(lock) + ", witness " + witness + ", " + name, opened(lock, witness), want);
    }

    private static void endings() {
        due("no code, the witness decides", 0, 1, true);
        due("no code", 0, -1, true);
        due("no code, witness 0", 0, 0, false);
        due("a 0 ends it, what stands above is not done", 0x90, 7, true);
        due("a 0 ends it between codes", 0xD01, 0, true);
        due("an empty stack", 0x9, 7, false);
        due("an empty stack after a test", 0xF, 7, false);
    }

    private static void pushes() {
        due("1 pushes 1", 0x1, 0, true);
        due("1 pushes 1, not 2", 0x61, 1, true);
        due("1 pushes 1, not 2", 0x61, 2, false);
        due("11 pushes 2", 0x6B, 2, true);
        due("11 pushes 2", 0x6B, 1, false);
        due("10 pushes the height", 0x6A, 3, true);
        due("10 pushes the height, not the tip's", 0x6A, 2, false);
        due("2 copies", 0x62, 9, true);
        due("2 leaves both: w - (w - w)", 0x5522, 9, true);
        due("2 leaves both", 0x5522, 0, false);
        due("14 copies the one below: 1 - w", 0x5E1, 1, false);
        due("14 copies the one below: 1 - w", 0x5E1, 0, true);
        due("14 puts w on top", 0xE1, 0, false);
        due("14 puts w on top", 0xE1, 5, true);
        due("14 keeps what was there", 0x9E1, 0, true);
        due("14 keeps what was below", 0x99E1, 0, false);
    }

    private static void sums() {
        due("3 adds", 0x3B, -2, false);
        due("3 adds", 0x3B, 2, true);
        due("3 wraps", 0x7132, MOST, true);
        due("4 multiplies: w * w = 1", 0x6142, -1, true);
        due("4 multiplies: w * w = 1", 0x6142, 2, false);
        due("4 multiplies by 2", 0x4B, 1 << 30, true);
        due("4 wraps", 0x4B, 1 << 31, false);
        due("4 wraps", 0x42, 1 << 16, false);
        due("5 is w - 2", 0x615B, 3, true);
        due("5 is not 2 - w", 0x615B, 1, false);
        due("5 goes below 0", 0x7151, 0, true);
        due("5 wraps: smallest - 1 is not less than 1", 0x7151, LEAST, false);
        due("12 of 2 and 2 is 0", 0xCB, 2, false);
        due("12 of 3 and 2 is 1", 0x61CB, 3, true);
        due("12 of 1 and 2 is 3", 0x6ACB, 1, true);
        due("12 of 3 and 2 is not 3", 0x6ACB, 3, false);
    }

    private static void comparisons() {
        due("6 equal gives 1", 0x616A, 3, true);
        due("6 unequal gives 0", 0x6A, 4, false);
        due("7 less: w < 2", 0x7B, 1, true);
        due("7 not less: 2 < 2", 0x7B, 2, false);
        due("7 not less: 3 < 2", 0x7B, 3, false);
        due("7 has signs", 0x7B, LEAST, true);
        due("7 has signs", 0x7B, MOST, false);
        due("7 gives 1", 0x617B, 1, true);
        due("13 of 0 is 1", 0x61D, 0, true);
        due("13 of 5 is 0", 0xD, 5, false);
        due("13 of 5 is not 1", 0x61D, 5, false);
        due("13 of -1 is 0", 0xD, -1, false);
        due("13 twice", 0x61DD, 5, true);
    }

    private static void moves() {
        due("8 exchanges", 0x81, 0, false);
        due("8 exchanges", 0x81, 6, true);
        due("8 keeps the other below", 0x981, 0, true);
        due("8 then 5 is 2 - w", 0x6158B, 1, true);
        due("8 then 5 is not w - 2", 0x6158B, 3, false);
        due("9 drops", 0x91, 0, false);
        due("9 drops", 0x91, 3, true);
        due("9 drops one", 0x911, 0, true);
        due("15 drops what is not 0", 0xF1, 4, true);
        due("15 drops what is not 0, w is 0", 0xF1, 0, false);
        due("15 drops -1", 0x1F, -1, true);
        due("15 fails at 0, whatever follows", 0x1F, 0, false);
        due("15 on a test", 0xF6A2, 3, true);
        due("15 on a test", 0xF6A2, 4, false);
    }

    private static void tooFew() {
        int[] two = {3, 4, 5, 6, 7, 8, 12, 14};
        for (int code : two) {
            due("one number is too few", 0x10 | code, 5, false);
            due("none is too few", 0x109 | code << 4, 5, false);
            due("two are enough", 0x101 | code << 4, 5, true);
        }
        int[] one = {2, 9, 13, 15};
        for (int code : one) {
            due("none is too few", 0x109 | code << 4, 5, false);
            due("one is enough", 0x10 | code, 5, true);
        }
        int[] none = {1, 10, 11};
        for (int code : none) {
            due("none is enough", 0x09 | code << 4, 5, true);
        }
    }

    /** How many numbers a code leaves, told by drops: the last one leaves none. */
    private static void sizes() {
        int[] leavesOne = {3, 4, 5, 6, 7, 12};
        for (int code : leavesOne) {
            due("two become one", 0x901 | code << 4, 5, false);
        }
        due("8 leaves two", 0x9981, 5, false);
        due("13 leaves one", 0x9D, 5, false);
        due("2 leaves two", 0x92, 5, true);
        due("2 leaves two", 0x992, 5, false);
        due("14 leaves three", 0x99E1, 5, true);
        due("14 leaves three", 0x999E1, 5, false);
        due("9 leaves one", 0x991, 5, false);
        due("15 leaves one", 0x9F1, 5, false);
        int[] pushes = {1, 10, 11};
        for (int code : pushes) {
            due("one becomes two", 0x90 | code, 5, true);
            due("one becomes two", 0x990 | code, 5, false);
        }
    }

    private static void wholeLocks() {
        due("eight pushes", 0x11111111, 0, true);
        due("eight copies", 0x22222222, 0, false);
        due("eight copies", 0x22222222, 8, true);
        due("the highest code is done, though the lock is below 0", 0xD1111111, 0, false);
        due("the highest code is done", 0xF2222222, 7, true);
        due("eight drops", 0x99999999, 7, false);
        due("four pushes and four drops", 0x99991111, 0, false);
        due("four pushes and four drops", 0x99991111, 2, true);
        due("4 * 4 - 4 = 12, and 12 ^ 12", 0xC25E4222, 4, false);
    }

    /** The height is that of the block that would take the transaction, in a block too. */
    private static void heights() {
        for (int parent = 1; parent <= 4; parent++) {
            ChainNode x = new ChainNode();
            x.mine(1, 1, 0x6A);
            Calls.mineAll(x, 2, 4);
            x.input(0, 33, 0, 4);
            x.output(0, 1, 1);
            x.seal(0);
            CHECKS.due("height 5 in the pool", x.offer(0), false);
            Calls.send(x, 5, parent, 9, 0);
            CHECKS.due("witness 4 on height " + (parent + 1), x.tip(), parent == 3 ? 5 : 4);
        }
    }
}
