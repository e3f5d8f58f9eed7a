/** Sentence by sentence: the lock script, seen through what fits into the pool. */
public final class EdgeScriptTest {
    private static final Checks CHECKS = new Checks();
    private static final int LEAST = Integer.MIN_VALUE;
    private static final int MOST = Integer.MAX_VALUE;

    public static void main(String[] args) {
        CHECKS.sentence("Terms", "a stack holds w at first", EdgeScriptTest::witnessFirst);
        CHECKS.sentence("Terms", "the eight 4-bit numbers of L are executed", EdgeScriptTest::eightCodes);
        CHECKS.sentence("Terms", "from the lowest to the highest", EdgeScriptTest::lowestFirst);
        CHECKS.sentence("Terms", "up to the first that is 0", EdgeScriptTest::zeroEnds);
        CHECKS.sentence("Terms", "1 push 1", EdgeScriptTest::pushOne);
        CHECKS.sentence("Terms", "2 push a copy of the top", EdgeScriptTest::copyTop);
        CHECKS.sentence("Terms", "3 add", EdgeScriptTest::add);
        CHECKS.sentence("Terms", "4 multiply", EdgeScriptTest::multiply);
        CHECKS.sentence("Terms", "5 subtract (the one below the top minus the top)", EdgeScriptTest::subtract);
        CHECKS.sentence("Terms", "6 equal", EdgeScriptTest::equal);
        CHECKS.sentence("Terms", "7 less (the one below the top less than the top)", EdgeScriptTest::less);
        CHECKS.sentence("Terms", "12 exclusive or", EdgeScriptTest::exclusiveOr);
        CHECKS.sentence("Terms", "the two topmost are replaced by the result (for 6, 7: 1 or 0)", EdgeScriptTest::twoBecomeOne);
        CHECKS.sentence("Terms", "8 exchange the two topmost", EdgeScriptTest::exchange);
        CHECKS.sentence("Terms", "9 drop the top", EdgeScriptTest::drop);
        CHECKS.sentence("Terms", "10 push h", EdgeScriptTest::pushHeight);
        CHECKS.sentence("Terms", "11 push 2", EdgeScriptTest::pushTwo);
        CHECKS.sentence("Terms", "13 replace the top by 1 if it is 0, else 0", EdgeScriptTest::not);
        CHECKS.sentence("Terms", "14 push a copy of the one below the top", EdgeScriptTest::copyBelow);
        CHECKS.sentence("Terms", "15 drop the top, and fail if it was 0.", EdgeScriptTest::dropOrFail);
        CHECKS.sentence("Terms", "Numbers wrap.", EdgeScriptTest::wraps);
        CHECKS.sentence("Terms", "Too few numbers on the stack: it fails.", EdgeScriptTest::tooFew);
        CHECKS.sentence("Terms", "The output is OPENED if the script did not fail", EdgeScriptTest::failedIsNotOpened);
        CHECKS.sentence("Terms", "and its stack is then not empty", EdgeScriptTest::emptyIsNotOpened);
        CHECKS.sentence("Terms", "and the top is not 0.", EdgeScriptTest::topIsNotZero);
        CHECKS.end();
    }

    /** Whether the lock is opened by the witness at height 3. */
    private static boolean opened(int lock, int witness) {
        ChainNode x = new ChainNode();
        x.mine(1, 1, lock);
        x.mine(2, 1, 1);
        Calls.spend(x, 0, 33, witness, 1);
        return x.offer(0);
    }

    private static void opens(int lock, int... witnesses) {
        for (int witness : witnesses) {
            CHECKS.due("lock " + Integer.toHexString(lock) + ", witness " + witness, opened(lock, witness), true);
        }
    }

    private static void staysShut(int lock, int... witnesses) {
        for (int witness : witnesses) {
            CHECKS.due("lock " + Integer.toHexString(lock) + ", witness " + witness, opened(lock, witness), false);
        }
    }

    private static void witnessFirst() {
        opens(0, 1, -1, LEAST, MOST);
        staysShut(0, 0);
        staysShut(0x9, 1);
        opens(0x61, 1);
        staysShut(0x61, 2, 0);
    }

    /** A 13 turns the top, which is not 0, into 0: seen at each of the eight places. */
    private static void eightCodes() {
        for (int code = 0; code < 8; code++) {
            int before = 0x11111111 & ~(-1 << 4 * code);
            staysShut(before | 0xD << 4 * code, 5);
            opens(before | 0x1 << 4 * code, 5);
        }
        opens(0x22222222, 8);
        staysShut(0x22222222, 0);
        staysShut(0x99992222, 0);
        opens(0x99992222, 8);
        staysShut(0x99999222, 8);
    }

    private static void lowestFirst() {
        staysShut(0xD1, 5, 0);
        opens(0x1D, 5, 0);
        staysShut(0x29, 5);
        opens(0x92, 5);
        opens(0x1DDDDDDD, 0, 5);
        staysShut(0xD1111111, 0, 5);
    }

    /** What stands above the 0 would shut the lock, whatever it is. */
    private static void zeroEnds() {
        int[] shutting = {0xDDDDDDDD, 0x99999999, 0xFFFFFFFF, 0x33333333};
        for (int above : shutting) {
            opens(above << 4, 1, -1);
            staysShut(above << 4, 0);
            for (int place = 1; place < 7; place++) {
                int below = 0x11111111 & ~(-1 << 4 * place);
                opens(above << 4 * place + 4 | below, 0);
            }
        }
    }

    private static void pushOne() {
        opens(0x1, 0);
        opens(0x61, 1);
        staysShut(0x61, 0, 2, -1);
        opens(0x91, 7);
        staysShut(0x91, 0);
        opens(0x19, 0);
    }

    private static void copyTop() {
        opens(0x62, 0, 9, LEAST);
        opens(0x92, 9);
        staysShut(0x992, 9);
        opens(0x5522, 9);
        staysShut(0x5522, 0);
    }

    private static void add() {
        staysShut(0x3B, -2);
        opens(0x3B, 2, -1, 0);
        opens(0x613B, -1);
        staysShut(0x613B, 3, 1);
    }

    private static void multiply() {
        opens(0x6142, 1, -1);
        staysShut(0x6142, 0, 2);
        opens(0x6B4B, 1);
        staysShut(0x6B4B, 2, 0);
    }

    private static void subtract() {
        opens(0x615B, 3);
        staysShut(0x615B, 1, 2);
        staysShut(0x5B, 2);
        opens(0x7151, 0, 1);
        staysShut(0x7151, 2);
    }

    private static void equal() {
        opens(0x6B, 2);
        staysShut(0x6B, 1, 3, -2, LEAST, MOST, 2 + (1 << 16), 2 + (1 << 8));
        opens(0x616B, 2);
    }

    private static void less() {
        opens(0x7B, 1, 0, -1, LEAST);
        staysShut(0x7B, 2, 3, MOST);
        opens(0x617B, 1);
        opens(0x78B, 3, MOST);
        staysShut(0x78B, 2, 1, LEAST);
    }

    private static void exclusiveOr() {
        staysShut(0xCB, 2);
        opens(0xCB, 0, 1, 3, -1);
        opens(0x61CB, 3);
        opens(0x6ACB, 1);
        staysShut(0x6ACB, 3, 2);
        opens(0x71CB, LEAST);
    }

    private static void twoBecomeOne() {
        int[] codes = {3, 4, 5, 6, 7, 12};
        for (int code : codes) {
            staysShut(0x901 | code << 4, 5);
            opens(0x9011 | code << 8, 5);
            staysShut(0x99011 | code << 8, 5);
        }
        opens(0x616B, 2);
        opens(0x617B, 1);
        opens(0xD6B, 1);
        opens(0xD7B, 2);
        staysShut(0x616B, 1);
        staysShut(0x617B, 2);
    }

    private static void exchange() {
        opens(0x81, 6);
        staysShut(0x81, 0);
        opens(0x981, 0);
        staysShut(0x9981, 6);
        opens(0x6158B, 1);
        staysShut(0x6158B, 3);
        opens(0x61588B, 3);
        staysShut(0x61588B, 1);
    }

    private static void drop() {
        staysShut(0x91, 0);
        opens(0x91, 3);
        opens(0x911, 0);
        staysShut(0x9911, 0);
        opens(0x9911, 3);
        staysShut(0x9, 3);
    }

    /** In the pool the height is the tip's and one; in a block it is the block's, on whichever branch. */
    private static void pushHeight() {
        opens(0x6A, 3);
        staysShut(0x6A, 2, 4, 1);
        for (int parent = 2; parent <= 22; parent++) {
            ChainNode x = new ChainNode();
            x.mine(1, 1, 0x6A);
            Calls.mineAll(x, 2, parent);
            Calls.spend(x, 0, 33, parent + 1, 50);
            Calls.spend(x, 1, 33, parent, 50);
            Calls.spend(x, 2, 33, parent + 2, 50);
            CHECKS.due("witness " + parent + " in the pool", x.offer(1), false);
            CHECKS.due("witness " + (parent + 2) + " in the pool", x.offer(2), false);
            CHECKS.due("witness " + (parent + 1) + " in the pool", x.offer(0), true);
            CHECKS.due("in a block on " + parent, Calls.send(x, 23, parent, 15, 0), 1);
        }
        ChainNode x = new ChainNode();
        x.mine(1, 1, 0x6A);
        Calls.mineAll(x, 2, 5);
        Calls.spend(x, 0, 33, 4, 50);
        CHECKS.due("height 6 on the tip", Calls.send(x, 6, 5, 15, 0), 0);
        CHECKS.due("height 5", Calls.send(x, 7, 4, 15, 0), 0);
        CHECKS.due("height 4 on a lower block", Calls.send(x, 8, 3, 15, 0), 1);
    }

    private static void pushTwo() {
        opens(0x6B, 2);
        staysShut(0x6B, 1, 3, 11);
        opens(0xB, 0);
        opens(0x9B, 5);
        staysShut(0x9B, 0);
        opens(0xB9, 0);
    }

    private static void not() {
        opens(0xD, 0);
        opens(0x61D, 0);
        staysShut(0xD, 1, -1, 5, LEAST, MOST, 1 << 16);
        opens(0xDD, 5);
        opens(0x61DD, 5);
        staysShut(0xDD, 0);
        staysShut(0x9D, 0);
    }

    private static void copyBelow() {
        opens(0xE1, 5);
        staysShut(0xE1, 0);
        opens(0x9E1, 0);
        opens(0x99E1, 5);
        staysShut(0x99E1, 0);
        staysShut(0x999E1, 5);
        opens(0x5E1, 0);
        staysShut(0x5E1, 1);
    }

    private static void dropOrFail() {
        opens(0xF1, 4);
        staysShut(0xF1, 0);
        opens(0x1F, 1, -1, LEAST, MOST, 1 << 16);
        staysShut(0x1F, 0);
        staysShut(0x1111111F, 0);
        staysShut(0xF, 4);
        staysShut(0xFF1, 4);
        opens(0x1FF1, 4);
        staysShut(0x1FF1, 0);
    }

    private static void wraps() {
        opens(0x7131, MOST);
        opens(0xD3B32, MOST, -1);
        staysShut(0xD3B32, 0, 1);
        opens(0xD32, LEAST, 0);
        opens(0xD42, 1 << 16, LEAST, 0);
        staysShut(0xD42, 1 << 15, MOST);
        opens(0x6142, MOST);
        opens(0xD4B, LEAST, 0);
        staysShut(0xD4B, 1 << 30);
        opens(0x714B, 1 << 30);
        staysShut(0x7151, LEAST);
        staysShut(0x715B, LEAST, LEAST + 1);
        opens(0x715B, LEAST + 2);
        opens(0x7158D1, LEAST);
        staysShut(0x7158D1, LEAST + 1);
    }

    private static void tooFew() {
        int[] askTwo = {3, 4, 5, 6, 7, 8, 12, 14};
        for (int code : askTwo) {
            staysShut(code, 5);
            staysShut(0x10 | code, 5);
            staysShut(0x11111110 | code, 5);
            staysShut(0x109 | code << 4, 5);
            staysShut(0x11111091 | code << 8, 5);
            opens(0x101 | code << 4, 5);
        }
        int[] askOne = {2, 9, 13, 15};
        for (int code : askOne) {
            staysShut(0x109 | code << 4, 5);
            staysShut(0x11111109 | code << 4, 5);
            opens(0x10 | code, 5);
        }
        int[] askNone = {1, 10, 11};
        for (int code : askNone) {
            opens(0x09 | code << 4, 5);
        }
    }

    /** The numbers that a failed script leaves would open the lock. */
    private static void failedIsNotOpened() {
        staysShut(0xFD1, 5);
        opens(0x9D1, 5);
        staysShut(0x3, 5);
        staysShut(0x8, 5);
        staysShut(0xE, 5);
        staysShut(0x1F, 0);
    }

    private static void emptyIsNotOpened() {
        staysShut(0x9, 1, 5, -1);
        staysShut(0xF, 1, 5, -1);
        staysShut(0x991, 5);
        staysShut(0x9999111, 5);
        staysShut(0xFF2, 5);
    }

    private static void topIsNotZero() {
        opens(0, 1, -1, LEAST, MOST, 1 << 8, 1 << 16, 1 << 30);
        staysShut(0, 0);
        opens(0x1, 0);
        staysShut(0xD1, 5);
        staysShut(0xDB, 5);
        opens(0xB, 0);
    }
}
