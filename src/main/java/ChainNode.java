/**
 * A node of a block chain: transactions with small lock scripts, a tree of blocks of which the
 * heaviest good chain counts, and a pool of transactions that wait for a block.
 *
 * An output is held under the number 2 * transaction + place. Coinbases count as transactions
 * 32 .. 55 there, so one pair of arrays has the outputs of both; an amount of 0 says that there
 * is no such output.
 */
public final class ChainNode {
    public static final int REFUSED = -1, FULL = -2;

    private static final int TRANSACTIONS = 32;
    private static final int BLOCKS = 24;
    private static final int CREATORS = 56;
    private static final int PLACES = 2;
    private static final int INPUTS = 64;
    private static final int OUTPUTS = 112;
    private static final int BLOCK_ROOM = 3;
    private static final int INCLUSIONS = 72;
    private static final int POOL_ROOM = 8;
    private static final int QUEUE_ROOM = 80;
    private static final int STACK_ROOM = 9;
    private static final int LOCK_BITS = 32;

    private static final int GENESIS = 0;
    private static final int SUBSIDY = 50;
    private static final int FIRST_LOCK = 1;
    private static final int RIPENING = 2;
    private static final int MOST_AMOUNT = 1000;
    private static final int MOST_WORK = 15;

    private static final int UNMADE = 0;
    private static final int DRAFT = 1;
    private static final int ORPHAN = 2;
    private static final int CONNECTED = 3;

    private final int[] inputCount = new int[TRANSACTIONS];
    private final int[] inputSource = new int[INPUTS];
    private final int[] inputWitness = new int[INPUTS];
    private final int[] outputCount = new int[TRANSACTIONS];
    private final boolean[] sealed = new boolean[TRANSACTIONS];
    private final int[] outputAmount = new int[OUTPUTS];
    private final int[] outputLock = new int[OUTPUTS];

    private final int[] blockStage = new int[BLOCKS];
    private final int[] blockParent = new int[BLOCKS];
    private final int[] blockWork = new int[BLOCKS];
    private final int[] blockCount = new int[BLOCKS];
    private final int[] blockContent = new int[INCLUSIONS];
    private final int[] blockTurn = new int[BLOCKS];
    private final int[] blockHeight = new int[BLOCKS];
    private final int[] blockWeight = new int[BLOCKS];
    private final boolean[] blockGood = new boolean[BLOCKS];
    private int submissions;

    private int tipBlock;
    private final int[] chainBlock = new int[BLOCKS];
    private final int[] pool = new int[POOL_ROOM];
    private int poolCount;

    // The list that a transaction must fit after; it is built anew for each question.
    private final boolean[] listed = new boolean[CREATORS];
    private final boolean[] spent = new boolean[OUTPUTS];

    // The transactions to offer after the tip has changed, since the pool itself is emptied then.
    private final int[] queue = new int[QUEUE_ROOM];
    private int queueCount;

    private final int[] stack = new int[STACK_ROOM];

    public ChainNode() {
        draft(GENESIS, GENESIS, 0);
        blockStage[GENESIS] = CONNECTED;
        blockGood[GENESIS] = true;
        submissions = 1;
    }

    public int input(int transaction, int from, int place, int witness) {
        if (!isOpen(transaction) || !isOutputName(from, place)) {
            return REFUSED;
        }
        int count = inputCount[transaction];
        if (count >= PLACES) {
            return FULL;
        }
        inputSource[PLACES * transaction + count] = PLACES * from + place;
        inputWitness[PLACES * transaction + count] = witness;
        inputCount[transaction] = count + 1;
        return count + 1;
    }

    public int output(int transaction, int amount, int lock) {
        if (!isOpen(transaction) || !isAmount(amount)) {
            return REFUSED;
        }
        int count = outputCount[transaction];
        if (count >= PLACES) {
            return FULL;
        }
        outputAmount[PLACES * transaction + count] = amount;
        outputLock[PLACES * transaction + count] = lock;
        outputCount[transaction] = count + 1;
        return count + 1;
    }

    public int seal(int transaction) {
        if (!isOpen(transaction)) {
            return REFUSED;
        }
        sealed[transaction] = true;
        return inputCount[transaction] + outputCount[transaction];
    }

    public boolean offer(int transaction) {
        return isTransaction(transaction) && addToPool(transaction);
    }

    public int block(int block, int parent, int work) {
        if (!isUnsubmitted(block) || !isWork(work)) {
            return REFUSED;
        }
        if (parent < 0 || parent >= BLOCKS || parent == block) {
            return REFUSED;
        }
        draft(block, parent, work);
        return 1;
    }

    public int include(int block, int transaction) {
        if (!isDraft(block) || !isTransaction(transaction) || !sealed[transaction]) {
            return REFUSED;
        }
        if (blockCount[block] >= BLOCK_ROOM) {
            return FULL;
        }
        append(block, transaction);
        return blockCount[block];
    }

    public int reward(int block, int amount, int lock) {
        if (!isDraft(block) || !isAmount(amount)) {
            return REFUSED;
        }
        setCoinbase(block, amount, lock);
        return 1;
    }

    public int submit(int block) {
        if (!isDraft(block)) {
            return REFUSED;
        }
        int before = tipBlock;
        accept(block);
        return tipBlock == before ? 0 : 1;
    }

    public int mine(int block, int work, int lock) {
        if (!isUnsubmitted(block) || !isWork(work)) {
            return REFUSED;
        }
        draft(block, tipBlock, work);
        int amount = SUBSIDY;
        for (int i = 0; i < poolCount && i < BLOCK_ROOM; i++) {
            append(block, pool[i]);
            amount += surplus(pool[i]);
        }
        setCoinbase(block, amount, lock);
        accept(block);
        return blockCount[block];
    }

    public int tip() {
        return tipBlock;
    }

    public int count(int what) {
        switch (what) {
            case 0:
                return blockHeight[tipBlock];
            case 1:
                return blockWeight[tipBlock];
            case 2:
                return countOrphans();
            case 3:
                return poolCount;
            case 4:
                return sumUnspent();
            default:
                return REFUSED;
        }
    }

    public int at(int height) {
        if (height < 0 || height > blockHeight[tipBlock]) {
            return REFUSED;
        }
        return chainBlock[height];
    }

    public int unspent(int transaction, int place) {
        if (!isOutputName(transaction, place)) {
            return REFUSED;
        }
        listChain(tipBlock);
        int output = PLACES * transaction + place;
        return isUnspent(output) ? outputAmount[output] : 0;
    }

    public int pooled(int place) {
        if (place < 0 || place >= poolCount) {
            return REFUSED;
        }
        return pool[place];
    }

    public int depth(int transaction) {
        if (transaction < 0 || transaction >= CREATORS) {
            return REFUSED;
        }
        int top = blockHeight[tipBlock];
        for (int height = 0; height <= top; height++) {
            if (holds(chainBlock[height], transaction)) {
                return top - height + 1;
            }
        }
        return 0;
    }

    private static boolean isTransaction(int transaction) {
        return transaction >= 0 && transaction < TRANSACTIONS;
    }

    private static boolean isOutputName(int from, int place) {
        return from >= 0 && from < CREATORS && place >= 0 && place < PLACES;
    }

    private static boolean isAmount(int amount) {
        return amount >= 1 && amount <= MOST_AMOUNT;
    }

    private static boolean isWork(int work) {
        return work >= 1 && work <= MOST_WORK;
    }

    private boolean isOpen(int transaction) {
        return isTransaction(transaction) && !sealed[transaction];
    }

    private boolean isDraft(int block) {
        return block > GENESIS && block < BLOCKS && blockStage[block] == DRAFT;
    }

    private boolean isUnsubmitted(int block) {
        if (block <= GENESIS || block >= BLOCKS) {
            return false;
        }
        return blockStage[block] == UNMADE || blockStage[block] == DRAFT;
    }

    private static int coinbaseOutput(int block) {
        return PLACES * (TRANSACTIONS + block);
    }

    private void draft(int block, int parent, int work) {
        blockStage[block] = DRAFT;
        blockParent[block] = parent;
        blockWork[block] = work;
        blockCount[block] = 0;
        setCoinbase(block, SUBSIDY, FIRST_LOCK);
    }

    private void setCoinbase(int block, int amount, int lock) {
        int output = coinbaseOutput(block);
        outputAmount[output] = amount;
        outputLock[output] = lock;
    }

    private void append(int block, int transaction) {
        blockContent[BLOCK_ROOM * block + blockCount[block]] = transaction;
        blockCount[block]++;
    }

    private boolean holds(int block, int transaction) {
        if (transaction == TRANSACTIONS + block) {
            return true;
        }
        for (int i = 0; i < blockCount[block]; i++) {
            if (blockContent[BLOCK_ROOM * block + i] == transaction) {
                return true;
            }
        }
        return false;
    }

    private void accept(int block) {
        blockStage[block] = ORPHAN;
        blockTurn[block] = submissions;
        submissions++;
        for (int i = 0; i < BLOCKS; i++) {
            int next = findConnectable();
            if (next == GENESIS) {
                break;
            }
            connect(next);
        }
        int best = findHeaviestGood();
        if (best == tipBlock) {
            return;
        }
        moveTip(best);
        for (int i = 0; i < queueCount; i++) {
            addToPool(queue[i]);
        }
    }

    /** Answers the genesis if no block waits whose parent is connected. */
    private int findConnectable() {
        for (int block = 1; block < BLOCKS; block++) {
            if (blockStage[block] == ORPHAN && blockStage[blockParent[block]] == CONNECTED) {
                return block;
            }
        }
        return GENESIS;
    }

    /** Judges the block once and for all: nothing that its chain is made of changes any more. */
    private void connect(int block) {
        int parent = blockParent[block];
        blockStage[block] = CONNECTED;
        blockHeight[block] = blockHeight[parent] + 1;
        blockWeight[block] = blockWeight[parent] + blockWork[block];
        boolean good = blockGood[parent];
        int most = SUBSIDY;
        listChain(parent);
        for (int i = 0; i < blockCount[block] && good; i++) {
            int transaction = blockContent[BLOCK_ROOM * block + i];
            good = fits(transaction, blockHeight[block]);
            most += surplus(transaction);
            listTransaction(transaction);
        }
        blockGood[block] = good && outputAmount[coinbaseOutput(block)] <= most;
    }

    /** The turn decides, not the number: an orphan may have come before the tip it equals. */
    private int findHeaviestGood() {
        int best = GENESIS;
        for (int block = 1; block < BLOCKS; block++) {
            boolean heavier = blockWeight[block] > blockWeight[best];
            boolean equal = blockWeight[block] == blockWeight[best];
            boolean earlier = blockTurn[block] < blockTurn[best];
            if (blockGood[block] && (heavier || equal && earlier)) {
                best = block;
            }
        }
        return best;
    }

    private void moveTip(int best) {
        queueCount = 0;
        int fork = findFork(best);
        for (int height = fork + 1; height <= blockHeight[tipBlock]; height++) {
            enqueueContent(chainBlock[height]);
        }
        for (int i = 0; i < poolCount; i++) {
            enqueue(pool[i]);
        }
        poolCount = 0;
        tipBlock = best;
        int block = best;
        for (int height = blockHeight[best]; height > fork; height--) {
            chainBlock[height] = block;
            block = blockParent[block];
        }
    }

    /** The height of the highest block of the chain that the chain of this block has too. */
    private int findFork(int last) {
        int block = last;
        for (int height = blockHeight[last]; height > 0; height--) {
            if (height <= blockHeight[tipBlock] && chainBlock[height] == block) {
                return height;
            }
            block = blockParent[block];
        }
        return 0;
    }

    private void enqueueContent(int block) {
        for (int i = 0; i < blockCount[block]; i++) {
            enqueue(blockContent[BLOCK_ROOM * block + i]);
        }
    }

    private void enqueue(int transaction) {
        if (queueCount < QUEUE_ROOM) {
            queue[queueCount] = transaction;
            queueCount++;
        }
    }

    private boolean addToPool(int transaction) {
        if (poolCount >= POOL_ROOM) {
            return false;
        }
        listChain(tipBlock);
        for (int i = 0; i < poolCount; i++) {
            listTransaction(pool[i]);
        }
        if (!fits(transaction, blockHeight[tipBlock] + 1)) {
            return false;
        }
        pool[poolCount] = transaction;
        poolCount++;
        return true;
    }

    private void listChain(int last) {
        for (int i = 0; i < CREATORS; i++) {
            listed[i] = false;
        }
        for (int i = 0; i < OUTPUTS; i++) {
            spent[i] = false;
        }
        int block = last;
        for (int height = blockHeight[last]; height >= 0; height--) {
            listBlock(block);
            block = blockParent[block];
        }
    }

    private void listBlock(int block) {
        listed[TRANSACTIONS + block] = true;
        for (int i = 0; i < blockCount[block]; i++) {
            listTransaction(blockContent[BLOCK_ROOM * block + i]);
        }
    }

    private void listTransaction(int transaction) {
        listed[transaction] = true;
        for (int i = 0; i < inputCount[transaction]; i++) {
            spent[inputSource[PLACES * transaction + i]] = true;
        }
    }

    private boolean fits(int transaction, int height) {
        int inputs = inputCount[transaction];
        if (!sealed[transaction] || inputs == 0 || outputCount[transaction] == 0) {
            return false;
        }
        int first = PLACES * transaction;
        if (listed[transaction] || inputs == 2 && inputSource[first] == inputSource[first + 1]) {
            return false;
        }
        for (int i = first; i < first + inputs; i++) {
            int output = inputSource[i];
            if (!isUnspent(output) || !isRipe(output, height)) {
                return false;
            }
            if (!opens(outputLock[output], inputWitness[i], height)) {
                return false;
            }
        }
        return surplus(transaction) >= 0;
    }

    private boolean isUnspent(int output) {
        return outputAmount[output] > 0 && listed[output / PLACES] && !spent[output];
    }

    private boolean isRipe(int output, int height) {
        int block = output / PLACES - TRANSACTIONS;
        return block < 0 || height >= blockHeight[block] + RIPENING;
    }

    /** The fee, if the transaction fits. */
    private int surplus(int transaction) {
        int sum = 0;
        for (int i = 0; i < inputCount[transaction]; i++) {
            sum += outputAmount[inputSource[PLACES * transaction + i]];
        }
        for (int i = 0; i < outputCount[transaction]; i++) {
            sum -= outputAmount[PLACES * transaction + i];
        }
        return sum;
    }

    private boolean opens(int lock, int witness, int height) {
        stack[0] = witness;
        int size = 1;
        for (int shift = 0; shift < LOCK_BITS; shift += 4) {
            int code = lock >>> shift & 15;
            if (code == 0) {
                break;
            }
            if (size < needOf(code)) {
                return false;
            }
            int top = size > 0 ? stack[size - 1] : 0;
            int below = size > 1 ? stack[size - 2] : 0;
            if (code == 15 && top == 0) {
                return false;
            }
            if (code == 8) {
                stack[size - 2] = top;
            }
            size += growthOf(code);
            if (size > 0) {
                stack[size - 1] = newTop(code, top, below, height);
            }
        }
        return size > 0 && stack[size - 1] != 0;
    }

    /** How many numbers must lie on the stack before this code. */
    private static int needOf(int code) {
        switch (code) {
            case 1:
            case 10:
            case 11:
                return 0;
            case 2:
            case 9:
            case 13:
            case 15:
                return 1;
            default:
                return 2;
        }
    }

    /** How many numbers more lie on the stack after this code. */
    private static int growthOf(int code) {
        switch (code) {
            case 1:
            case 2:
            case 10:
            case 11:
            case 14:
                return 1;
            case 8:
            case 13:
                return 0;
            default:
                return -1;
        }
    }

    /** The number on top after this code; after a drop that is the one that lay below. */
    private static int newTop(int code, int top, int below, int height) {
        switch (code) {
            case 1:
                return 1;
            case 2:
                return top;
            case 3:
                return below + top;
            case 4:
                return below * top;
            case 5:
                return below - top;
            case 6:
                return below == top ? 1 : 0;
            case 7:
                return below < top ? 1 : 0;
            case 10:
                return height;
            case 11:
                return 2;
            case 12:
                return below ^ top;
            case 13:
                return top == 0 ? 1 : 0;
            default:
                return below;
        }
    }

    private int countOrphans() {
        int orphans = 0;
        for (int block = 1; block < BLOCKS; block++) {
            if (blockStage[block] == ORPHAN) {
                orphans++;
            }
        }
        return orphans;
    }

    private int sumUnspent() {
        listChain(tipBlock);
        int sum = 0;
        for (int output = 0; output < OUTPUTS; output++) {
            if (isUnspent(output)) {
                sum += outputAmount[output];
            }
        }
        return sum;
    }
}
