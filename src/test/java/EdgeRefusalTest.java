import java.util.ArrayList;
import java.util.List;
import java.util.function.ToIntFunction;

/**
 * Sentence by sentence: promise 17, and that numbers out of their ranges change nothing.
 *
 * A story of calls is told undisturbed, and then again with one call put in between, at every place
 * and for every such call: where that call is refused, all later answers must be the same. The story
 * goes on with open transactions and with drafts, so what they hold comes to light as well.
 */
public final class EdgeRefusalTest {
    private record Call(String name, ToIntFunction<ChainNode> made) {
    }

    private static final Checks CHECKS = new Checks();
    private static final int REFUSED = ChainNode.REFUSED;
    private static final int FULL = ChainNode.FULL;
    private static final List<Call> STORY = new ArrayList<>();
    private static int places;

    public static void main(String[] args) {
        tellOfTransactions();
        tellOfBlocks();
        tellOfAFullPool();
        tellOfAFullBlock();
        places = STORY.size() + 1;
        askEverything();
        CHECKS.sentence("Promise 17", "input, output, include: REFUSED is tested before FULL.", EdgeRefusalTest::refusedBeforeFull);
        CHECKS.sentence("Terms", "Numbers out of the ranges said here answer REFUSED (or what is said) and change nothing.",
            EdgeRefusalTest::numbersOutOfRange);
        CHECKS.sentence("Promise 17", "A call that is refused, because a number is not as said there", EdgeRefusalTest::numbersNotAsSaid);
        CHECKS.sentence("Promise 17", "something is not there", EdgeRefusalTest::notThere);
        CHECKS.sentence("Promise 17", "or a limit is reached, changes nothing.", EdgeRefusalTest::limits);
        CHECKS.sentence("Not promised", "Nothing is promised beyond the answers and state changes described above", EdgeRefusalTest::questions);
        CHECKS.end();
    }

    private static void due(String what, long got, long want) {
        CHECKS.due(what, got, want);
    }

    private static void tell(String name, ToIntFunction<ChainNode> made) {
        STORY.add(new Call(name, made));
    }

    private static void tellPay(int transaction, int from, int amount) {
        tell("input", x -> x.input(transaction, from, 0, 0));
        tell("output", x -> x.output(transaction, amount, 1));
        tell("seal", x -> x.seal(transaction));
    }

    private static void tellOffer(int transaction) {
        tell("offer", x -> x.offer(transaction) ? 1 : 0);
    }

    private static void tellOfTransactions() {
        tell("mine", x -> x.mine(1, 2, 1));
        tell("mine", x -> x.mine(2, 2, 0x6B));
        tell("mine", x -> x.mine(3, 2, 1));
        tell("input", x -> x.input(0, 32, 0, 5));
        tell("output", x -> x.output(0, 30, 0x6B));
        tell("input", x -> x.input(0, 34, 0, 2));
        tell("output", x -> x.output(0, 60, 1));
        tell("seal", x -> x.seal(0));
        tell("seal", x -> x.seal(31));
        tellOffer(0);
        tellPay(1, 33, 44);
    }

    /** Drafts at all stages, an orphan, a block that is not good, and a chain that is given up. */
    private static void tellOfBlocks() {
        tell("block", x -> x.block(9, 3, 3));
        tell("include", x -> x.include(9, 1));
        tell("reward", x -> x.reward(9, 56, 0x6A));
        tell("block", x -> x.block(8, 7, 9));
        tell("include", x -> x.include(8, 31));
        tell("submit", x -> x.submit(8));
        tell("submit", x -> x.submit(9));
        tell("count", x -> x.count(1));
        tell("block", x -> x.block(10, 9, 1));
        tell("include", x -> x.include(10, 0));
        tell("submit", x -> x.submit(10));
        tell("input", x -> x.input(20, 41, 0, 6));
        tell("output", x -> x.output(20, 56, 1));
        tell("seal", x -> x.seal(20));
        tellOffer(20);
        tell("block", x -> x.block(7, 3, 15));
        tell("submit", x -> x.submit(7));
        tell("pooled", x -> x.pooled(0));
        tell("pooled", x -> x.pooled(1));
    }

    /** One that spends both outputs of 0, and seven that each spend the one before: two find the pool full. */
    private static void tellOfAFullPool() {
        tell("input", x -> x.input(21, 0, 0, 2));
        tell("input", x -> x.input(21, 0, 1, 0));
        tell("output", x -> x.output(21, 90, 1));
        tell("seal", x -> x.seal(21));
        tellOffer(21);
        for (int t = 2; t <= 8; t++) {
            tellPay(t, t - 1, 44);
        }
        for (int t = 2; t <= 8; t++) {
            tellOffer(t);
        }
        tell("pooled", x -> x.pooled(7));
    }

    /** The pool is mined and put into a block by hand, which is full then. */
    private static void tellOfAFullBlock() {
        tell("mine", x -> x.mine(12, 1, 1));
        tellOffer(7);
        tell("block", x -> x.block(11, 12, 1));
        tell("block", x -> x.block(14, 12, 1));
        for (int t = 2; t <= 4; t++) {
            int transaction = t;
            tell("include", x -> x.include(14, transaction));
        }
        tell("submit", x -> x.submit(14));
        tell("pooled", x -> x.pooled(0));
        tell("submit", x -> x.submit(11));
        tellPay(30, 1, 1);
        tell("mine", x -> x.mine(13, 1, 1));
    }

    private static void askEverything() {
        tell("tip", ChainNode::tip);
        for (int i = 0; i <= 23; i++) {
            int number = i;
            tell("count", x -> x.count(number));
            tell("at", x -> x.at(number));
            tell("pooled", x -> x.pooled(number));
            tell("submit", x -> x.submit(number));
        }
        for (int i = 0; i <= 55; i++) {
            int number = i;
            tell("unspent", x -> x.unspent(number, 0));
            tell("unspent", x -> x.unspent(number, 1));
            tell("depth", x -> x.depth(number));
            tell("seal", x -> x.seal(number));
        }
    }

    private static int[] tellAll() {
        ChainNode x = new ChainNode();
        int[] answers = new int[STORY.size()];
        for (int i = 0; i < answers.length; i++) {
            answers[i] = STORY.get(i).made.applyAsInt(x);
        }
        return answers;
    }

    /** Puts the call in at every place before the closing questions; answers at how many of them it was refused. */
    private static int putIn(Call call, boolean isQuestion) {
        int[] answers = tellAll();
        int refused = 0;
        for (int place = 0; place < places; place++) {
            ChainNode x = new ChainNode();
            for (int i = 0; i < place; i++) {
                STORY.get(i).made.applyAsInt(x);
            }
            int answer = call.made.applyAsInt(x);
            if (answer != REFUSED && answer != FULL && !isQuestion) {
                continue;
            }
            refused++;
            for (int i = place; i < answers.length; i++) {
                String name = STORY.get(i).name + " in row " + i + " after " + call.name + " in row " + place;
                due(name, STORY.get(i).made.applyAsInt(x), answers[i]);
            }
        }
        return refused;
    }

    private static int putIn(String name, ToIntFunction<ChainNode> made) {
        return putIn(new Call(name, made), false);
    }

    /** A call that must be refused at every place of the story. */
    private static void alwaysRefused(String name, ToIntFunction<ChainNode> made) {
        due(name + " is refused everywhere", putIn(name, made), places);
    }

    /** A call that must be refused at some place of the story, or it would test nothing. */
    private static void sometimesRefused(String name, ToIntFunction<ChainNode> made) {
        due(name + " is refused somewhere", putIn(name, made) > 0, true);
    }

    private static void due(String what, boolean got, boolean want) {
        CHECKS.due(what, got, want);
    }

    private static int offered(ChainNode x, int transaction) {
        return x.offer(transaction) ? 1 : REFUSED;
    }

    private static void refusedBeforeFull() {
        ChainNode x = new ChainNode();
        for (int i = 0; i < 2; i++) {
            x.input(0, 32, 0, 0);
            x.output(0, 1, 1);
        }
        due("a full input", x.input(0, 32, 0, 0), FULL);
        due("a full output", x.output(0, 1, 1), FULL);
        for (int number : Calls.outside(0, 55)) {
            due("a full input from " + number, x.input(0, number, 0, 0), REFUSED);
        }
        for (int number : Calls.outside(0, 1)) {
            due("a full input at place " + number, x.input(0, 32, number, 0), REFUSED);
        }
        for (int number : Calls.outside(1, 1000)) {
            due("a full output of " + number, x.output(0, number, 1), REFUSED);
        }
        x.seal(0);
        due("a full and sealed input", x.input(0, 32, 0, 0), REFUSED);
        due("a full and sealed output", x.output(0, 1, 1), REFUSED);
        x.block(1, 0, 1);
        for (int i = 0; i < 3; i++) {
            x.include(1, 0);
        }
        due("a full block", x.include(1, 0), FULL);
        due("a full block, an open transaction", x.include(1, 1), REFUSED);
        for (int number : Calls.outside(0, 31)) {
            due("a full block, transaction " + number, x.include(1, number), REFUSED);
        }
        x.submit(1);
        due("a full and submitted block", x.include(1, 0), REFUSED);
    }

    /** Each argument in turn out of its range, the others as they may be. */
    private static void numbersOutOfRange() {
        int[] few = {-1, Integer.MIN_VALUE, Integer.MAX_VALUE, 0x55555556};
        for (int number : few) {
            alwaysRefused("input(" + number + ", 32, 0, 0)", x -> x.input(number, 32, 0, 0));
            alwaysRefused("input(20, " + number + ", 0, 0)", x -> x.input(20, number, 0, 0));
            alwaysRefused("input(0, 32, " + number + ", 0)", x -> x.input(0, 32, number, 0));
            alwaysRefused("output(" + number + ", 1, 1)", x -> x.output(number, 1, 1));
            alwaysRefused("output(0, " + number + ", 1)", x -> x.output(0, number, 1));
            alwaysRefused("seal(" + number + ")", x -> x.seal(number));
            alwaysRefused("offer(" + number + ")", x -> offered(x, number));
            alwaysRefused("block(" + number + ", 0, 1)", x -> x.block(number, 0, 1));
            alwaysRefused("block(9, " + number + ", 1)", x -> x.block(9, number, 1));
            alwaysRefused("block(9, 3, " + number + ")", x -> x.block(9, 3, number));
            alwaysRefused("include(" + number + ", 31)", x -> x.include(number, 31));
            alwaysRefused("include(9, " + number + ")", x -> x.include(9, number));
            alwaysRefused("reward(" + number + ", 1, 1)", x -> x.reward(number, 1, 1));
            alwaysRefused("reward(9, " + number + ", NEVER)", x -> x.reward(9, number, Calls.NEVER));
            alwaysRefused("submit(" + number + ")", x -> x.submit(number));
            alwaysRefused("mine(" + number + ", 1, 1)", x -> x.mine(number, 1, 1));
            alwaysRefused("mine(9, " + number + ", 1)", x -> x.mine(9, number, 1));
            alwaysRefused("count(" + number + ")", x -> x.count(number));
            alwaysRefused("at(" + number + ")", x -> x.at(number));
            alwaysRefused("unspent(" + number + ", 0)", x -> x.unspent(number, 0));
            alwaysRefused("unspent(32, " + number + ")", x -> x.unspent(32, number));
            alwaysRefused("pooled(" + number + ")", x -> x.pooled(number));
            alwaysRefused("depth(" + number + ")", x -> x.depth(number));
        }
    }

    /** The numbers next to the ranges. */
    private static void numbersNotAsSaid() {
        alwaysRefused("input(32, 32, 0, 0)", x -> x.input(32, 32, 0, 0));
        alwaysRefused("input(0, 56, 0, 0)", x -> x.input(0, 56, 0, 0));
        alwaysRefused("input(0, 32, 2, 0)", x -> x.input(0, 32, 2, 0));
        alwaysRefused("output(32, 1, 1)", x -> x.output(32, 1, 1));
        alwaysRefused("output(0, 0, 1)", x -> x.output(0, 0, 1));
        alwaysRefused("output(0, 1001, 1)", x -> x.output(0, 1001, 1));
        alwaysRefused("seal(32)", x -> x.seal(32));
        alwaysRefused("offer(32)", x -> offered(x, 32));
        alwaysRefused("block(0, 1, 1)", x -> x.block(0, 1, 1));
        alwaysRefused("block(24, 0, 1)", x -> x.block(24, 0, 1));
        alwaysRefused("block(9, 24, 1)", x -> x.block(9, 24, 1));
        alwaysRefused("block(9, 9, 1)", x -> x.block(9, 9, 1));
        alwaysRefused("block(9, 3, 0)", x -> x.block(9, 3, 0));
        alwaysRefused("block(9, 3, 16)", x -> x.block(9, 3, 16));
        alwaysRefused("include(0, 31)", x -> x.include(0, 31));
        alwaysRefused("include(24, 31)", x -> x.include(24, 31));
        alwaysRefused("include(9, 32)", x -> x.include(9, 32));
        alwaysRefused("reward(0, 1, 1)", x -> x.reward(0, 1, 1));
        alwaysRefused("reward(24, 1, 1)", x -> x.reward(24, 1, 1));
        alwaysRefused("reward(9, 0, NEVER)", x -> x.reward(9, 0, Calls.NEVER));
        alwaysRefused("reward(9, 1001, NEVER)", x -> x.reward(9, 1001, Calls.NEVER));
        alwaysRefused("submit(0)", x -> x.submit(0));
        alwaysRefused("submit(24)", x -> x.submit(24));
        alwaysRefused("mine(0, 1, 1)", x -> x.mine(0, 1, 1));
        alwaysRefused("mine(24, 1, 1)", x -> x.mine(24, 1, 1));
        alwaysRefused("mine(9, 0, 1)", x -> x.mine(9, 0, 1));
        alwaysRefused("mine(9, 16, 1)", x -> x.mine(9, 16, 1));
        alwaysRefused("count(5)", x -> x.count(5));
        alwaysRefused("at(24)", x -> x.at(24));
        alwaysRefused("unspent(56, 0)", x -> x.unspent(56, 0));
        alwaysRefused("unspent(32, 2)", x -> x.unspent(32, 2));
        alwaysRefused("pooled(8)", x -> x.pooled(8));
        alwaysRefused("depth(56)", x -> x.depth(56));
    }

    /** Sealed transactions are not there to be added to, submitted or unmade blocks not as drafts. */
    private static void notThere() {
        alwaysRefused("include in a block that is never made", x -> x.include(22, 31));
        alwaysRefused("reward of a block that is never made", x -> x.reward(22, 50, 1));
        alwaysRefused("submit of a block that is never made", x -> x.submit(22));
        alwaysRefused("include of a transaction that is never sealed in time", x -> x.include(9, 29));
        for (int t = 0; t <= 1; t++) {
            int transaction = t;
            sometimesRefused("input of sealed " + t, x -> x.input(transaction, 40, 1, 9));
            sometimesRefused("output of sealed " + t, x -> x.output(transaction, 999, Calls.NEVER));
            sometimesRefused("seal of sealed " + t, x -> x.seal(transaction));
            sometimesRefused("offer of " + t, x -> offered(x, transaction));
        }
        int[] blocks = {1, 7, 8, 9, 10, 12, 14};
        for (int block : blocks) {
            sometimesRefused("block " + block + " that is submitted", x -> x.block(block, 0, 15));
            sometimesRefused("include in " + block + " that is no draft", x -> x.include(block, 0));
            sometimesRefused("reward of " + block + " that is no draft", x -> x.reward(block, 1, Calls.NEVER));
            sometimesRefused("submit of " + block + " that is no draft", x -> x.submit(block));
            sometimesRefused("mine of " + block + " that is submitted", x -> x.mine(block, 15, Calls.NEVER));
        }
    }

    private static void limits() {
        sometimesRefused("a third input", x -> fullAlone(x.input(0, 40, 1, 9)));
        sometimesRefused("a third output", x -> fullAlone(x.output(0, 999, Calls.NEVER)));
        sometimesRefused("a fourth transaction", x -> fullAlone(x.include(14, 31)));
        sometimesRefused("a ninth in the pool, which would fit", x -> x.count(3) == 8 ? offered(x, 7) : 0);
        sometimesRefused("a ninth in the pool, which would not fit", x -> x.count(3) == 8 ? offered(x, 31) : 0);
    }

    private static int fullAlone(int answer) {
        return answer == FULL ? FULL : 0;
    }

    /** A question is no change, whatever it answers. */
    private static void questions() {
        List<Call> asked = List.of(
            new Call("tip()", ChainNode::tip),
            new Call("count(0)", x -> x.count(0)),
            new Call("count(1)", x -> x.count(1)),
            new Call("count(2)", x -> x.count(2)),
            new Call("count(3)", x -> x.count(3)),
            new Call("count(4)", x -> x.count(4)),
            new Call("at(1)", x -> x.at(1)),
            new Call("unspent(32, 0)", x -> x.unspent(32, 0)),
            new Call("unspent(1, 1)", x -> x.unspent(1, 1)),
            new Call("pooled(0)", x -> x.pooled(0)),
            new Call("depth(1)", x -> x.depth(1)),
            new Call("depth(33)", x -> x.depth(33)));
        for (Call call : asked) {
            due(call.name + " at every place", putIn(call, true), places);
        }
    }
}
