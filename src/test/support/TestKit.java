/** What the tests share: the operations by name, comparing with what is due, and writing methods. */
class TestKit {
    static final int PUSH = 0, LOAD = 1, STORE = 2, ADD = 3, SUB = 4, MUL = 5, DIV = 6, AND = 7, XOR = 8, DUP = 9, SWAP = 10,
            POP = 11, EMIT = 12, GOTO = 13, IFZERO = 14, IFNEG = 15, RETURN = 16, THROW = 17, SWITCH = 18;
    static final int BAD = -1, WRONG = -2, NONE = Integer.MIN_VALUE;
    static final int MIN = Integer.MIN_VALUE, MAX = Integer.MAX_VALUE;

    /** How many ints each operation takes off the stack, and how many it puts on it. */
    static final int[] TAKES = {0, 0, 1, 2, 2, 2, 2, 2, 2, 1, 2, 1, 1, 0, 1, 1, 1, 1};
    static final int[] PUTS = {1, 1, 0, 1, 1, 1, 1, 1, 1, 2, 2, 0, 0, 0, 0, 0, 0, 0};

    /** So many tell enough; a test of a broken program ends then. */
    private static final int MOST_FAULTS = 20;

    private static int wrong = 0;
    private static int sentences = 0;
    private static String sentence = "";

    /** Begins the test of one sentence of the document. */
    static void sentence(String where, String words) {
        sentences++;
        sentence = where + ", \"" + words + "\": ";
    }

    static void due(String what, long got, long want) {
        if (got != want) {
            fault(what + " answered " + got + ", due is " + want);
        }
    }

    static void due(String what, boolean got, boolean want) {
        due(what, got ? 1 : 0, want ? 1 : 0);
    }

    static void due(int promise, String what, long got, long want) {
        due("promise " + promise + ": " + what, got, want);
    }

    static void due(int promise, String what, boolean got, boolean want) {
        due("promise " + promise + ": " + what, got, want);
    }

    static void fault(String text) {
        wrong++;
        System.out.println(sentence + text);
        if (wrong == MOST_FAULTS) {
            finish();
        }
    }

    static void finish() {
        if (sentences > 0) {
            System.out.println(sentences + " sentences were tested");
        }
        System.out.println(wrong == 0 ? "all answers are as due" : wrong + " answers are not as due");
        if (wrong != 0) {
            System.exit(1);
        }
    }

    /** A new object with an original of these instructions, each an operation and its a. */
    static FlowFlattener with(int... pairs) {
        FlowFlattener x = new FlowFlattener();
        write(x, pairs);
        return x;
    }

    static void write(FlowFlattener x, int... pairs) {
        int begin = x.length(false);
        for (int i = 0; i < pairs.length; i += 2) {
            due("add(" + pairs[i] + ", " + pairs[i + 1] + ")", x.add(pairs[i], pairs[i + 1]), begin + i / 2);
        }
    }

    /** Adds handlers, each by from, to and target. */
    static FlowFlattener catching(FlowFlattener x, int... triples) {
        for (int i = 0; i < triples.length; i += 3) {
            due("handler", x.handler(triples[i], triples[i + 1], triples[i + 2]), true);
        }
        return x;
    }

    static void flatIs(FlowFlattener x, String what, int... pairs) {
        due(what + ": length(true)", x.length(true), pairs.length / 2);
        for (int i = 0; i < pairs.length / 2; i++) {
            due(what + ": operation(true, " + i + ")", x.operation(true, i), pairs[2 * i]);
            due(what + ": operand(true, " + i + ")", x.operand(true, i), pairs[2 * i + 1]);
        }
    }

    static void handlerIs(FlowFlattener x, boolean flat, int h, int from, int to, int target) {
        due("handlerAt(" + flat + ", " + h + ", 0)", x.handlerAt(flat, h, 0), from);
        due("handlerAt(" + flat + ", " + h + ", 1)", x.handlerAt(flat, h, 1), to);
        due("handlerAt(" + flat + ", " + h + ", 2)", x.handlerAt(flat, h, 2), target);
    }

    static void blockIs(FlowFlattener x, int b, int state, int first, int leader) {
        due("block(" + b + ", 0)", x.block(b, 0), state);
        due("block(" + b + ", 1)", x.block(b, 1), first);
        due("block(" + b + ", 2)", x.block(b, 2), leader);
    }

    static void leadersAre(FlowFlattener x, int... leaders) {
        due("blocks()", x.blocks(), leaders.length);
        for (int b = 0; b < leaders.length; b++) {
            due("block(" + b + ", 2)", x.block(b, 2), leaders[b]);
        }
    }

    static void depthsAre(FlowFlattener x, int... depths) {
        for (int i = 0; i < depths.length; i++) {
            due("depth(" + i + ")", x.depth(i), depths[i]);
        }
    }

    /** What a seed draws, reckoned in longs so that nothing wraps by itself. */
    static int[] draws(int seed, int n) {
        int[] drawn = new int[n];
        long g = seed & 0xFFFFFFFFL;
        for (int i = 0; i < n; i++) {
            g = (g * 1664525L + 1013904223L) % 4294967296L;
            drawn[i] = (int) (g / 256);
        }
        return drawn;
    }

    /**
     * The least seed from 0 up that draws the states in the order of the blocks, and after that for each block
     * a p of the given kind.
     */
    static int seedWith(int... kinds) {
        for (int seed = 0;; seed++) {
            int[] drawn = draws(seed, kinds.length * 5);
            boolean found = true;
            for (int b = 0; b < kinds.length; b++) {
                found &= (b == 0 || drawn[b - 1] < drawn[b]) && drawn[kinds.length + 4 * b] % 4 == kinds[b];
            }
            if (found) {
                return seed;
            }
        }
    }

    /** A seed of such states after which no block gets a condition. */
    static int plainSeed(int blocks) {
        return seedWith(new int[blocks]);
    }

    /** How many instructions a condition of the kind has, with its junk. */
    static int conditionSize(int kind, int height) {
        int[] sizes = {0, 8, 9, 13};
        return kind == 0 ? 0 : sizes[kind] + height + 3;
    }
}
