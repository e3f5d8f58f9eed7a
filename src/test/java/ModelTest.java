import java.util.ArrayList;
import java.util.List;
import java.util.Random;

/** Long runs of drawn calls, the same each time, on a ChainNode and on a PlainNode. */
public final class ModelTest {
    private static final int RUNS = 3000;
    private static final int CALLS = 512;
    private static final int[] LOCKS = {1, 1, 1, 1, 0, 0x6B, 0x6A, 0x7A, 0xD7A, 0xD1, 0x61, 0xFB, 0xCA, 0x615B, 0x8A9E};
    private static final int[] EDGES = {-1, 0, 1, 2, 3, 15, 16, 23, 24, 31, 32, 33, 55, 56, Integer.MIN_VALUE, Integer.MAX_VALUE};

    private final Random random;
    private final int run;
    private final ChainNode node = new ChainNode();
    private final PlainNode plain = new PlainNode();
    private final List<String> told = new ArrayList<>();
    private int wrong;

    /** How much the run cares for forks, so that long chains and wide trees both come up. */
    private final int wildness;

    private static int tipChanges;
    private static int goodOffers;
    private static int filledPools;
    private static int mined;

    private ModelTest(int run) {
        this.run = run;
        random = new Random(run);
        wildness = random.nextInt(4);
    }

    public static void main(String[] args) {
        int wrong = 0;
        for (int run = 0; run < RUNS && wrong < 5; run++) {
            ModelTest test = new ModelTest(run);
            test.drawCalls();
            wrong += test.wrong;
        }
        wrong += locks();
        System.out.println(RUNS + " runs: " + tipChanges + " changes of the tip, " + goodOffers + " good offers, "
            + filledPools + " calls on a full pool, " + mined + " mined transactions");
        System.out.println(wrong == 0 ? "all answers are as due" : wrong + " answers are not as due");
        if (wrong != 0) {
            System.exit(1);
        }
    }

    /** All locks of up to three codes, and locks drawn from all ints. */
    private static int locks() {
        Random random = new Random(1);
        int wrong = 0;
        for (int i = 0; i < 20000; i++) {
            int lock = i < 4096 ? i : random.nextInt();
            int witness = random.nextInt(3) == 0 ? random.nextInt() : random.nextInt(7) - 3;
            ChainNode node = new ChainNode();
            node.mine(1, 1, lock);
            node.mine(2, 1, 1);
            node.input(0, 33, 0, witness);
            node.output(0, 1, 1);
            node.seal(0);
            boolean want = PlainNode.opened(lock, witness, 3);
            if (node.offer(0) != want) {
                wrong++;
                System.out.println("lock " + Integer.toHexString(lock) + ", witness " + witness + ": due is " + want);
            }
        }
        return wrong;
    }

    private void due(String call, long got, long want) {
        told.add(call + " -> " + got);
        if (got != want) {
            wrong++;
            System.out.println("run " + run + ": " + told + ", due is " + want);
        }
    }

    private int used() {
        return told.size();
    }

    private void drawCalls() {
        boolean sweep = random.nextInt(3) == 0;
        int most = sweep ? CALLS - 300 : CALLS - 12;
        while (used() < most - 12 && wrong == 0) {
            if (plain.count(3) == 8) {
                filledPools++;
            }
            int kind = random.nextInt(20);
            if (kind < 6) {
                drawSpending();
            } else if (kind < 9) {
                drawBlock();
            } else if (kind < 10 + wildness / 2) {
                mine(1 + random.nextInt(23), 1 + random.nextInt(2), drawLock());
            } else if (kind < 13) {
                offer(random.nextInt(32));
            } else if (kind < 14) {
                drawEdge();
            } else {
                drawQuestion();
            }
        }
        if (sweep) {
            sweep();
        }
    }

    private int drawLock() {
        return random.nextInt(12) == 0 ? random.nextInt() : LOCKS[random.nextInt(LOCKS.length)];
    }

    private int edge() {
        return EDGES[random.nextInt(EDGES.length)];
    }

    /** A witness that mostly opens the lock in the next block or the one after it. */
    private int drawWitness(int lock) {
        int height = plain.count(0) + 1;
        for (int i = 0; i < 6 && random.nextInt(15) != 0; i++) {
            int witness = i < 2 ? height + i : random.nextInt(5) - 1;
            if (PlainNode.opened(lock, witness, height + random.nextInt(2))) {
                return witness;
            }
        }
        return random.nextInt(5) - 2;
    }

    /** A transaction that mostly fits after the chain and the pool. */
    private void drawSpending() {
        int transaction = random.nextInt(32);
        for (int i = 0; i < 8 && plain.isSealed(transaction); i++) {
            transaction = random.nextInt(32);
        }
        int sum = 0;
        int inputs = random.nextInt(12) == 0 ? random.nextInt(4) : 1 + random.nextInt(6) / 4;
        for (int i = 0; i < inputs; i++) {
            int from = random.nextInt(56);
            int place = random.nextInt(2);
            for (int j = 0; j < 60 && plain.spendableAmount(from, place) == 0; j++) {
                from = random.nextInt(56);
                place = random.nextInt(2);
            }
            input(transaction, from, place, drawWitness(plain.spendableLock(from, place)));
            sum += plain.spendableAmount(from, place);
        }
        int outputs = random.nextInt(12) == 0 ? random.nextInt(4) : 1 + random.nextInt(2);
        for (int i = 0; i < outputs; i++) {
            int amount = sum / outputs - random.nextInt(4) + random.nextInt(16) / 15 * 5;
            output(transaction, amount, drawLock());
        }
        if (random.nextInt(10) != 0) {
            seal(transaction);
        }
        if (random.nextInt(4) != 0) {
            offer(transaction);
        }
    }

    private void drawBlock() {
        int block = 1 + random.nextInt(23);
        for (int i = 0; i < 6 && plain.isSubmitted(block); i++) {
            block = 1 + random.nextInt(23);
        }
        int parent = random.nextInt(24);
        int height = plain.count(0);
        if (random.nextInt(5) > wildness) {
            parent = plain.tip();
        } else if (random.nextInt(4) != 0) {
            parent = plain.at(height - random.nextInt(height + 1 < 4 ? height + 1 : 4));
        }
        block(block, parent, 1 + random.nextInt(random.nextInt(3) == 0 ? 15 : 3));
        int contents = random.nextInt(5);
        for (int i = 0; i < contents; i++) {
            int pooled = plain.pooled(i);
            include(block, pooled >= 0 && random.nextInt(8) != 0 ? pooled : random.nextInt(32));
        }
        if (random.nextInt(3) == 0) {
            reward(block, 45 + random.nextInt(10), drawLock());
        }
        if (random.nextInt(8) != 0) {
            submit(block);
        } else if (random.nextInt(3) == 0) {
            mine(block, 1 + random.nextInt(3), drawLock());
        }
    }

    private void drawEdge() {
        switch (random.nextInt(9)) {
            case 0 -> input(edge(), edge(), random.nextInt(4) - 1, 1);
            case 1 -> output(edge(), random.nextInt(2) == 0 ? edge() : 999 + random.nextInt(3), 1);
            case 2 -> seal(edge());
            case 3 -> offer(edge());
            case 4 -> block(edge(), edge(), random.nextInt(18) - 1);
            case 5 -> include(edge(), edge());
            case 6 -> reward(edge(), random.nextInt(2) == 0 ? edge() : 999 + random.nextInt(3), 1);
            case 7 -> submit(edge());
            default -> mine(edge(), random.nextInt(2) == 0 ? edge() : 0, 1);
        }
    }

    private void drawQuestion() {
        switch (random.nextInt(7)) {
            case 0 -> due("tip()", node.tip(), plain.tip());
            case 1 -> count(random.nextInt(8) == 0 ? edge() : random.nextInt(5));
            case 2 -> at(random.nextInt(8) == 0 ? edge() : random.nextInt(10));
            case 3 -> unspent(random.nextInt(8) == 0 ? edge() : random.nextInt(56), random.nextInt(8) == 0 ? edge() : random.nextInt(2));
            case 4 -> pooled(random.nextInt(8) == 0 ? edge() : random.nextInt(9));
            case 5 -> depth(random.nextInt(8) == 0 ? edge() : random.nextInt(56));
            default -> count(4);
        }
    }

    private void sweep() {
        for (int what = 0; what <= 4; what++) {
            count(what);
        }
        for (int height = 0; height <= 24; height++) {
            at(height);
        }
        for (int place = 0; place <= 8; place++) {
            pooled(place);
        }
        for (int transaction = 0; transaction <= 55; transaction++) {
            unspent(transaction, 0);
            unspent(transaction, 1);
            depth(transaction);
        }
    }

    private void input(int transaction, int from, int place, int witness) {
        due("input(" + transaction + ", " + from + ", " + place + ", " + witness + ")",
            node.input(transaction, from, place, witness), plain.input(transaction, from, place, witness));
    }

    private void output(int transaction, int amount, int lock) {
        due("output(" + transaction + ", " + amount + ", " + lock + ")",
            node.output(transaction, amount, lock), plain.output(transaction, amount, lock));
    }

    private void seal(int transaction) {
        due("seal(" + transaction + ")", node.seal(transaction), plain.seal(transaction));
    }

    private void offer(int transaction) {
        boolean want = plain.offer(transaction);
        goodOffers += want ? 1 : 0;
        due("offer(" + transaction + ")", node.offer(transaction) ? 1 : 0, want ? 1 : 0);
    }

    private void block(int block, int parent, int work) {
        due("block(" + block + ", " + parent + ", " + work + ")", node.block(block, parent, work), plain.block(block, parent, work));
    }

    private void include(int block, int transaction) {
        due("include(" + block + ", " + transaction + ")", node.include(block, transaction), plain.include(block, transaction));
    }

    private void reward(int block, int amount, int lock) {
        due("reward(" + block + ", " + amount + ", " + lock + ")", node.reward(block, amount, lock), plain.reward(block, amount, lock));
    }

    private void submit(int block) {
        int want = plain.submit(block);
        tipChanges += want > 0 ? 1 : 0;
        due("submit(" + block + ")", node.submit(block), want);
    }

    private void mine(int block, int work, int lock) {
        int want = plain.mine(block, work, lock);
        mined += want > 0 ? want : 0;
        due("mine(" + block + ", " + work + ", " + lock + ")", node.mine(block, work, lock), want);
    }

    private void count(int what) {
        due("count(" + what + ")", node.count(what), plain.count(what));
    }

    private void at(int height) {
        due("at(" + height + ")", node.at(height), plain.at(height));
    }

    private void unspent(int transaction, int place) {
        due("unspent(" + transaction + ", " + place + ")", node.unspent(transaction, place), plain.unspent(transaction, place));
    }

    private void pooled(int place) {
        due("pooled(" + place + ")", node.pooled(place), plain.pooled(place));
    }

    private void depth(int transaction) {
        due("depth(" + transaction + ")", node.depth(transaction), plain.depth(transaction));
    }
}
