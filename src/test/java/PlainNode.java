import java.util.ArrayList;
import java.util.List;

/**
 * The document's definitions written down as they stand, without regard for speed: nothing is
 * kept but what was told to the node, the tip and the pool; all else is worked out anew.
 */
final class PlainNode {
    private record Input(int from, int place, int witness) {
    }

    private record Output(int amount, int lock) {
    }

    private static final class Transaction {
        final List<Input> inputs = new ArrayList<>();
        final List<Output> outputs = new ArrayList<>();
        boolean sealed;
    }

    private static final class Block {
        int parent;
        int work;
        final List<Integer> content = new ArrayList<>();
        Output coinbase = new Output(50, 1);
        boolean submitted;
    }

    private final Transaction[] transactions = new Transaction[32];
    private final Block[] blocks = new Block[24];
    private final List<Integer> submissions = new ArrayList<>();
    private List<Integer> pool = new ArrayList<>();
    private int tip;

    PlainNode() {
        for (int i = 0; i < 32; i++) {
            transactions[i] = new Transaction();
        }
        blocks[0] = new Block();
        blocks[0].submitted = true;
        submissions.add(0);
    }

    private static boolean within(int number, int least, int most) {
        return number >= least && number <= most;
    }

    int input(int transaction, int from, int place, int witness) {
        if (!within(transaction, 0, 31) || !within(from, 0, 55) || !within(place, 0, 1) || transactions[transaction].sealed) {
            return -1;
        }
        List<Input> inputs = transactions[transaction].inputs;
        if (inputs.size() == 2) {
            return -2;
        }
        inputs.add(new Input(from, place, witness));
        return inputs.size();
    }

    int output(int transaction, int amount, int lock) {
        if (!within(transaction, 0, 31) || !within(amount, 1, 1000) || transactions[transaction].sealed) {
            return -1;
        }
        List<Output> outputs = transactions[transaction].outputs;
        if (outputs.size() == 2) {
            return -2;
        }
        outputs.add(new Output(amount, lock));
        return outputs.size();
    }

    int seal(int transaction) {
        if (!within(transaction, 0, 31) || transactions[transaction].sealed) {
            return -1;
        }
        transactions[transaction].sealed = true;
        return transactions[transaction].inputs.size() + transactions[transaction].outputs.size();
    }

    boolean offer(int transaction) {
        if (!within(transaction, 0, 31) || pool.size() >= 8) {
            return false;
        }
        List<Integer> chain = chainOf(tip);
        if (!fits(transaction, chain, pool, chain.size())) {
            return false;
        }
        pool.add(transaction);
        return true;
    }

    int block(int block, int parent, int work) {
        if (!within(block, 1, 23) || !within(parent, 0, 23) || parent == block || !within(work, 1, 15) || isSubmitted(block)) {
            return -1;
        }
        blocks[block] = new Block();
        blocks[block].parent = parent;
        blocks[block].work = work;
        return 1;
    }

    int include(int block, int transaction) {
        if (!isDraft(block) || !within(transaction, 0, 31) || !transactions[transaction].sealed) {
            return -1;
        }
        if (blocks[block].content.size() == 3) {
            return -2;
        }
        blocks[block].content.add(transaction);
        return blocks[block].content.size();
    }

    int reward(int block, int amount, int lock) {
        if (!isDraft(block) || !within(amount, 1, 1000)) {
            return -1;
        }
        blocks[block].coinbase = new Output(amount, lock);
        return 1;
    }

    int submit(int block) {
        if (!isDraft(block)) {
            return -1;
        }
        blocks[block].submitted = true;
        submissions.add(block);
        int best = heaviest();
        if (best == tip) {
            return 0;
        }
        List<Integer> before = chainOf(tip);
        List<Integer> now = chainOf(best);
        List<Integer> waiting = new ArrayList<>();
        for (int b : before) {
            if (!now.contains(b)) {
                waiting.addAll(blocks[b].content);
            }
        }
        waiting.addAll(pool);
        tip = best;
        pool = new ArrayList<>();
        for (int transaction : waiting) {
            offer(transaction);
        }
        return 1;
    }

    int mine(int block, int work, int lock) {
        if (block(block, tip, work) != 1) {
            return -1;
        }
        int amount = 50;
        List<Integer> taken = new ArrayList<>(pool.subList(0, pool.size() < 3 ? pool.size() : 3));
        for (int transaction : taken) {
            amount += fee(transaction);
        }
        blocks[block].content.addAll(taken);
        blocks[block].coinbase = new Output(amount, lock);
        submit(block);
        return taken.size();
    }

    int tip() {
        return tip;
    }

    int count(int what) {
        List<Integer> chain = chainOf(tip);
        int sum = 0;
        switch (what) {
            case 0:
                return chain.size() - 1;
            case 1:
                return weight(tip);
            case 2:
                for (int block : submissions) {
                    sum += chainOf(block) == null ? 1 : 0;
                }
                return sum;
            case 3:
                return pool.size();
            case 4:
                for (int transaction = 0; transaction < 56; transaction++) {
                    sum += unspent(transaction, 0) + unspent(transaction, 1);
                }
                return sum;
            default:
                return -1;
        }
    }

    int at(int height) {
        List<Integer> chain = chainOf(tip);
        return within(height, 0, chain.size() - 1) ? chain.get(height) : -1;
    }

    int unspent(int transaction, int place) {
        if (!within(transaction, 0, 55) || !within(place, 0, 1)) {
            return -1;
        }
        Output found = unspentAfter(transaction, place, chainOf(tip), List.of());
        return found == null ? 0 : found.amount;
    }

    int pooled(int place) {
        return within(place, 0, pool.size() - 1) ? pool.get(place) : -1;
    }

    int depth(int transaction) {
        if (!within(transaction, 0, 55)) {
            return -1;
        }
        List<Integer> chain = chainOf(tip);
        for (int height = 0; height < chain.size(); height++) {
            int block = chain.get(height);
            if (transaction == 32 + block || blocks[block].content.contains(transaction)) {
                return chain.size() - height;
            }
        }
        return 0;
    }

    boolean isSubmitted(int block) {
        return blocks[block] != null && blocks[block].submitted;
    }

    boolean isDraft(int block) {
        return within(block, 1, 23) && blocks[block] != null && !blocks[block].submitted;
    }

    boolean isSealed(int transaction) {
        return transactions[transaction].sealed;
    }

    /** 0 if the output is not unspent after the chain and the pool. */
    int spendableAmount(int transaction, int place) {
        Output found = unspentAfter(transaction, place, chainOf(tip), pool);
        return found == null ? 0 : found.amount;
    }

    int spendableLock(int transaction, int place) {
        Output found = unspentAfter(transaction, place, chainOf(tip), pool);
        return found == null ? 0 : found.lock;
    }

    /** From the genesis to the block; null if the block is not connected. */
    private List<Integer> chainOf(int block) {
        List<Integer> chain = new ArrayList<>();
        int at = block;
        while (isSubmitted(at) && !chain.contains(at)) {
            chain.add(0, at);
            if (at == 0) {
                return chain;
            }
            at = blocks[at].parent;
        }
        return null;
    }

    private int weight(int block) {
        int sum = 0;
        for (int b : chainOf(block)) {
            sum += blocks[b].work;
        }
        return sum;
    }

    private int heaviest() {
        int best = 0;
        for (int block : submissions) {
            if (isGood(block) && weight(block) > weight(best)) {
                best = block;
            }
        }
        return best;
    }

    private boolean isGood(int block) {
        List<Integer> chain = chainOf(block);
        if (chain == null) {
            return false;
        }
        for (int height = 1; height < chain.size(); height++) {
            if (!followsWell(chain.get(height), chain.subList(0, height), height)) {
                return false;
            }
        }
        return true;
    }

    private boolean followsWell(int block, List<Integer> chain, int height) {
        List<Integer> before = new ArrayList<>();
        int most = 50;
        for (int transaction : blocks[block].content) {
            if (!fits(transaction, chain, before, height)) {
                return false;
            }
            most += fee(transaction);
            before.add(transaction);
        }
        return blocks[block].coinbase.amount <= most;
    }

    private boolean fits(int number, List<Integer> chain, List<Integer> after, int height) {
        Transaction transaction = transactions[number];
        if (!transaction.sealed || transaction.inputs.isEmpty() || transaction.outputs.isEmpty()) {
            return false;
        }
        List<Integer> list = listOf(chain, after);
        if (list.contains(number)) {
            return false;
        }
        List<Integer> names = new ArrayList<>();
        int sum = 0;
        for (Input input : transaction.inputs) {
            Output output = unspentAfter(input.from, input.place, chain, after);
            if (output == null || names.contains(10 * input.from + input.place)) {
                return false;
            }
            names.add(10 * input.from + input.place);
            if (input.from >= 32 && height < chain.indexOf(input.from - 32) + 2) {
                return false;
            }
            if (!opened(output.lock, input.witness, height)) {
                return false;
            }
            sum += output.amount;
        }
        for (Output output : transaction.outputs) {
            sum -= output.amount;
        }
        return sum >= 0;
    }

    private List<Integer> listOf(List<Integer> chain, List<Integer> after) {
        List<Integer> list = new ArrayList<>();
        for (int block : chain) {
            list.addAll(blocks[block].content);
        }
        list.addAll(after);
        return list;
    }

    private Output unspentAfter(int from, int place, List<Integer> chain, List<Integer> after) {
        List<Integer> list = listOf(chain, after);
        for (int number : list) {
            for (Input input : transactions[number].inputs) {
                if (input.from == from && input.place == place) {
                    return null;
                }
            }
        }
        if (from >= 32) {
            return place == 0 && chain.contains(from - 32) ? blocks[from - 32].coinbase : null;
        }
        boolean there = list.contains(from) && place < transactions[from].outputs.size();
        return there ? transactions[from].outputs.get(place) : null;
    }

    private int fee(int number) {
        int sum = 0;
        for (Input input : transactions[number].inputs) {
            sum += input.from >= 32 ? blocks[input.from - 32].coinbase.amount : transactions[input.from].outputs.get(input.place).amount;
        }
        for (Output output : transactions[number].outputs) {
            sum -= output.amount;
        }
        return sum;
    }

    private static final class Empty extends RuntimeException {
        private static final long serialVersionUID = 1L;
    }

    private static final class Stack {
        final List<Integer> numbers = new ArrayList<>();

        void push(int number) {
            numbers.add(number);
        }

        int pop() {
            if (numbers.isEmpty()) {
                throw new Empty();
            }
            return numbers.remove(numbers.size() - 1);
        }
    }

    static boolean opened(int lock, int witness, int height) {
        Stack stack = new Stack();
        stack.push(witness);
        try {
            String codes = new StringBuilder(String.format("%08x", lock)).reverse().toString();
            for (char code : codes.toCharArray()) {
                if (code == '0') {
                    break;
                }
                if (!step(stack, code, height)) {
                    return false;
                }
            }
            return stack.pop() != 0;
        } catch (Empty few) {
            return false;
        }
    }

    private static boolean step(Stack stack, char code, int height) {
        if (code == '1') {
            stack.push(1);
        } else if (code == 'b') {
            stack.push(2);
        } else if (code == 'a') {
            stack.push(height);
        } else if (code == '9') {
            stack.pop();
        } else if (code == 'f') {
            return stack.pop() != 0;
        } else if (code == 'd') {
            stack.push(stack.pop() == 0 ? 1 : 0);
        } else if (code == '2') {
            int top = stack.pop();
            stack.push(top);
            stack.push(top);
        } else {
            int top = stack.pop();
            int below = stack.pop();
            switch (code) {
                case '3' -> stack.push(below + top);
                case '4' -> stack.push(below * top);
                case '5' -> stack.push(below - top);
                case '6' -> stack.push(below == top ? 1 : 0);
                case '7' -> stack.push(below < top ? 1 : 0);
                case 'c' -> stack.push(below ^ top);
                case '8' -> {
                    stack.push(top);
                    stack.push(below);
                }
                default -> {
                    stack.push(below);
                    stack.push(top);
                    stack.push(below);
                }
            }
        }
        return true;
    }
}
