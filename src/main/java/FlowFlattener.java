/** A small stack machine's methods, an obfuscator that flattens their flow, and a machine that runs both. */
public final class FlowFlattener {
    public static final int BAD = -1;
    public static final int WRONG = -2;
    public static final int NONE = -2147483647 - 1;

    private static final int PUSH = 0;
    private static final int LOAD = 1;
    private static final int STORE = 2;
    private static final int ADD = 3;
    private static final int SUB = 4;
    private static final int MUL = 5;
    private static final int DIV = 6;
    private static final int AND = 7;
    private static final int XOR = 8;
    private static final int DUP = 9;
    private static final int SWAP = 10;
    private static final int POP = 11;
    private static final int EMIT = 12;
    private static final int GOTO = 13;
    private static final int IFZERO = 14;
    private static final int IFNEG = 15;
    private static final int RETURN = 16;
    private static final int THROW = 17;
    private static final int SWITCH = 18;

    /** How many ints each operation takes off the stack, and how many it puts on it. */
    private static final int[] TAKES = {0, 0, 1, 2, 2, 2, 2, 2, 2, 1, 2, 1, 1, 0, 1, 1, 1, 1, 1};
    private static final int[] PUTS = {1, 1, 0, 1, 1, 1, 1, 1, 1, 2, 2, 0, 0, 0, 0, 0, 0, 0, 0};

    private static final int MAX_INSTRUCTIONS = 32;
    private static final int MAX_HANDLERS = 3;
    private static final int MAX_DEPTH = 4;
    private static final int MAX_STEPS = 4000;
    private static final int KEPT_EMITS = 40;
    private static final int STARTERS = 4;

    /** The flat method's local for the state, and the first of those where operands are put aside. */
    private static final int STATE_LOCAL = 4;
    private static final int FIRST_ASIDE = 5;
    private static final int LOCALS = FIRST_ASIDE + MAX_DEPTH;

    /** Where the flat method's loop begins. */
    private static final int LOOP = 2;

    /** Four to begin with; a block has at most 4 loads, 13 of a condition, 7 of junk, an IF and 2 leads of 8; 3 stubs. */
    private static final int MAX_FLAT = 4 + MAX_INSTRUCTIONS * (4 + 13 + 7 + 1 + 16) + MAX_HANDLERS * 4;

    /** A condition of the flat method puts at most three ints above a block's own. */
    private static final int MAX_STACK = MAX_DEPTH + 3;

    /** Equal draws are rare, so this is far above what any seed needs. */
    private static final int MAX_DRAWS = 1000000;

    private static final int NOWHERE = -1;

    private static final int GOES_ON = 0;
    private static final int RETURNED = 1;
    private static final int THROWN = 2;

    private final Code original = new Code(MAX_INSTRUCTIONS, MAX_HANDLERS);
    private final Checker checker = new Checker();
    private final Weaver weaver = new Weaver();
    private final Machine machine = new Machine();
    private final int[] starters = new int[STARTERS];

    public FlowFlattener() {
    }

    public void clear() {
        original.empty();
    }

    public int add(int operation, int a) {
        if (operation < PUSH || operation > THROW || original.count == MAX_INSTRUCTIONS || !takesOperand(operation, a)) {
            return BAD;
        }
        original.append(operation, hasOperand(operation) ? a : 0);
        return original.count - 1;
    }

    public boolean handler(int from, int to, int target) {
        if (!isPlace(from) || !isPlace(to) || !isPlace(target) || from >= to || original.handlers == MAX_HANDLERS) {
            return false;
        }
        original.appendHandler(from, to, target);
        return true;
    }

    public int check() {
        return original.count == 0 ? BAD : 1 + checker.firstWrong(original);
    }

    public int depth(int i) {
        if (!original.has(i)) {
            return BAD;
        }
        checker.firstWrong(original);
        return checker.reached(i) ? checker.depths[i] : BAD;
    }

    public int flatten(int seed) {
        if (!originalIsFine()) {
            return WRONG;
        }
        weaver.weave(original, checker, seed);
        return weaver.flat.count;
    }

    public int length(boolean flat) {
        return chosen(flat).count;
    }

    public int operation(boolean flat, int i) {
        Code code = chosen(flat);
        return code.has(i) ? code.operations[i] : BAD;
    }

    public int operand(boolean flat, int i) {
        Code code = chosen(flat);
        return code.has(i) ? code.operands[i] : NONE;
    }

    public int handlerAt(boolean flat, int h, int part) {
        Code code = chosen(flat);
        if (h < 0 || h >= code.handlers) {
            return BAD;
        }
        switch (part) {
            case 0: return code.froms[h];
            case 1: return code.tos[h];
            case 2: return code.targets[h];
            default: return BAD;
        }
    }

    public int blocks() {
        return weaver.blocks.count;
    }

    public int block(int b, int part) {
        Blocks blocks = weaver.blocks;
        if (b < 0 || b >= blocks.count) {
            return BAD;
        }
        switch (part) {
            case 0: return blocks.states[b];
            case 1: return blocks.firsts[b];
            case 2: return blocks.leaders[b];
            default: return BAD;
        }
    }

    public boolean starter(int k, int v) {
        if (k < 0 || k >= STARTERS) {
            return false;
        }
        starters[k] = v;
        return true;
    }

    public int run(boolean flat, int steps) {
        if (steps < 0 || steps > MAX_STEPS) {
            return BAD;
        }
        if (flat ? weaver.flat.count == 0 : !originalIsFine()) {
            return WRONG;
        }
        machine.goFromStart(chosen(flat), weaver.blocks, starters, steps);
        return machine.ending;
    }

    public int result() {
        return machine.ending == GOES_ON ? NONE : machine.outcome;
    }

    public int steps() {
        return machine.taken;
    }

    public int emits() {
        return machine.emitCount;
    }

    public int emitted(int i) {
        return i >= 0 && i < machine.emitCount && i < KEPT_EMITS ? machine.kept[i] : NONE;
    }

    public int local(int k) {
        return machine.wasUsed && k >= 0 && k < LOCALS ? machine.locals[k] : NONE;
    }

    private Code chosen(boolean flat) {
        return flat ? weaver.flat : original;
    }

    private boolean originalIsFine() {
        return original.count > 0 && checker.firstWrong(original) == NOWHERE;
    }

    private static boolean isPlace(int i) {
        return i >= 0 && i <= MAX_INSTRUCTIONS;
    }

    private static boolean takesOperand(int operation, int a) {
        if (operation == LOAD || operation == STORE) {
            return a >= 0 && a < STARTERS;
        }
        return !jumps(operation) || a >= 0 && a < MAX_INSTRUCTIONS;
    }

    private static boolean hasOperand(int operation) {
        return operation == PUSH || operation == LOAD || operation == STORE || jumps(operation);
    }

    private static boolean jumps(int operation) {
        return operation == GOTO || branches(operation);
    }

    private static boolean branches(int operation) {
        return operation == IFZERO || operation == IFNEG;
    }

    private static boolean ends(int operation) {
        return operation == RETURN || operation == THROW;
    }

    private static boolean goesToNext(int operation) {
        return operation != GOTO && !ends(operation);
    }

    /** A row of instructions and a row of handlers. */
    private static final class Code {
        final int[] operations;
        final int[] operands;
        final int[] froms;
        final int[] tos;
        final int[] targets;
        int count;
        int handlers;

        Code(int maxInstructions, int maxHandlers) {
            operations = new int[maxInstructions];
            operands = new int[maxInstructions];
            froms = new int[maxHandlers];
            tos = new int[maxHandlers];
            targets = new int[maxHandlers];
        }

        void empty() {
            count = 0;
            handlers = 0;
        }

        boolean has(int i) {
            return i >= 0 && i < count;
        }

        void append(int operation, int a) {
            if (count < operations.length) {
                operations[count] = operation;
                operands[count] = a;
                count++;
            }
        }

        void appendHandler(int from, int to, int target) {
            if (handlers < froms.length) {
                froms[handlers] = from;
                tos[handlers] = to;
                targets[handlers] = target;
                handlers++;
            }
        }

        boolean covers(int h, int i) {
            return froms[h] <= i && i < tos[h];
        }

        /** The target of the first handler that catches what instruction i throws, or NOWHERE. */
        int catcher(int i) {
            for (int h = 0; h < handlers; h++) {
                if (covers(h, i)) {
                    return targets[h];
                }
            }
            return NOWHERE;
        }
    }

    /** Finds the depths of an original's instructions, and what is wrong in it. */
    private static final class Checker {
        final int[] depths = new int[MAX_INSTRUCTIONS];
        final boolean[] goneOver = new boolean[MAX_INSTRUCTIONS];

        /** The number of the wrong instruction, or NOWHERE; the depths stay as far as they were found. */
        int firstWrong(Code code) {
            forget();
            depths[0] = 0;
            for (int round = 0; round < MAX_INSTRUCTIONS; round++) {
                int i = leastLeft(code);
                if (i == NOWHERE) {
                    return NOWHERE;
                }
                goneOver[i] = true;
                if (!goesOver(code, i)) {
                    return i;
                }
            }
            return NOWHERE;
        }

        boolean reached(int i) {
            return depths[i] != NOWHERE;
        }

        private void forget() {
            for (int i = 0; i < MAX_INSTRUCTIONS; i++) {
                depths[i] = NOWHERE;
                goneOver[i] = false;
            }
        }

        private int leastLeft(Code code) {
            for (int i = 0; i < code.count; i++) {
                if (reached(i) && !goneOver[i]) {
                    return i;
                }
            }
            return NOWHERE;
        }

        private boolean goesOver(Code code, int i) {
            int operation = code.operations[i];
            int after = depths[i] - TAKES[operation] + PUTS[operation];
            if (TAKES[operation] > depths[i] || after > MAX_DEPTH || !staysInside(code, i)) {
                return false;
            }
            boolean fine = true;
            if (goesToNext(operation)) {
                fine = gives(code, i + 1, after);
            }
            if (jumps(operation)) {
                fine = gives(code, code.operands[i], after) && fine;
            }
            return givesTargets(code, i) && fine;
        }

        private static boolean staysInside(Code code, int i) {
            int operation = code.operations[i];
            return (!goesToNext(operation) || code.has(i + 1)) && (!jumps(operation) || code.has(code.operands[i]));
        }

        private boolean givesTargets(Code code, int i) {
            boolean fine = true;
            for (int h = 0; h < code.handlers; h++) {
                if (code.covers(h, i)) {
                    fine = gives(code, code.targets[h], 1) && fine;
                }
            }
            return fine;
        }

        private boolean gives(Code code, int i, int given) {
            if (!code.has(i) || reached(i) && depths[i] != given) {
                return false;
            }
            depths[i] = given;
            return true;
        }
    }

    /** The numbers that are drawn from a seed. */
    private static final class Draws {
        private int g;

        void begin(int seed) {
            g = seed;
        }

        int next() {
            g = g * 1664525 + 1013904223;
            return g >>> 8;
        }
    }

    /** The blocks of a flat method, numbered in the order of their leaders. */
    private static final class Blocks {
        final int[] leaders = new int[MAX_INSTRUCTIONS];
        final int[] heights = new int[MAX_INSTRUCTIONS];
        final int[] states = new int[MAX_INSTRUCTIONS];
        final int[] firsts = new int[MAX_INSTRUCTIONS];
        final int[] behinds = new int[MAX_INSTRUCTIONS];
        final int[] byState = new int[MAX_INSTRUCTIONS];
        /** The block that begins at an instruction, or NOWHERE. */
        final int[] startingAt = new int[MAX_INSTRUCTIONS];
        /** One more than there are instructions, since TO and TARGET may be behind the last. */
        private final boolean[] marked = new boolean[MAX_INSTRUCTIONS + 1];
        int count;

        void find(Code code, Checker checked) {
            mark(code, checked);
            count = 0;
            for (int i = 0; i < MAX_INSTRUCTIONS; i++) {
                startingAt[i] = NOWHERE;
                if (marked[i] && checked.reached(i)) {
                    startingAt[i] = count;
                    leaders[count] = i;
                    heights[count] = checked.depths[i];
                    count++;
                }
            }
        }

        private void mark(Code code, Checker checked) {
            for (int i = 0; i <= MAX_INSTRUCTIONS; i++) {
                marked[i] = i == 0;
            }
            for (int i = 0; i < code.count; i++) {
                if (checked.reached(i) && jumps(code.operations[i])) {
                    marked[code.operands[i]] = true;
                }
                if (checked.reached(i) && branches(code.operations[i])) {
                    marked[i + 1] = true;
                }
            }
            for (int h = 0; h < code.handlers; h++) {
                marked[code.froms[h]] = true;
                marked[code.tos[h]] = true;
                marked[code.targets[h]] = true;
            }
        }

        void drawStates(Draws draws) {
            for (int b = 0; b < count; b++) {
                states[b] = draws.next();
                for (int again = 0; again < MAX_DRAWS && among(b, states[b]) != NOWHERE; again++) {
                    states[b] = draws.next();
                }
            }
        }

        /** The block among the first n that has the state, or NOWHERE. */
        private int among(int n, int state) {
            for (int b = 0; b < n; b++) {
                if (states[b] == state) {
                    return b;
                }
            }
            return NOWHERE;
        }

        void sortByState() {
            for (int b = 0; b < count; b++) {
                int place = b;
                while (place > 0 && states[byState[place - 1]] > states[b]) {
                    byState[place] = byState[place - 1];
                    place--;
                }
                byState[place] = b;
            }
        }

        /** Where the block with the state is written, or NOWHERE. */
        int entry(int state) {
            int b = among(count, state);
            return b == NOWHERE ? NOWHERE : firsts[b];
        }
    }

    /** Writes the flat method. */
    private static final class Weaver {
        final Code flat = new Code(MAX_FLAT, MAX_HANDLERS * MAX_INSTRUCTIONS);
        final Blocks blocks = new Blocks();
        private final Draws draws = new Draws();

        void weave(Code code, Checker checked, int seed) {
            draws.begin(seed);
            blocks.find(code, checked);
            blocks.drawStates(draws);
            blocks.sortByState();
            flat.empty();
            writeLoop();
            for (int n = 0; n < blocks.count; n++) {
                int b = blocks.byState[n];
                blocks.firsts[b] = flat.count;
                writeTakingBack(b);
                writeCondition(b);
                writeInstructions(code, b);
                blocks.behinds[b] = flat.count;
            }
            for (int h = 0; h < code.handlers; h++) {
                writeCatching(code, h);
            }
        }

        private void writeLoop() {
            write(PUSH, blocks.states[0]);
            write(STORE, STATE_LOCAL);
            write(LOAD, STATE_LOCAL);
            write(SWITCH);
        }

        private void writeTakingBack(int b) {
            for (int n = 0; n < blocks.heights[b]; n++) {
                write(LOAD, FIRST_ASIDE + n);
            }
        }

        private void writeCondition(int b) {
            // All four are drawn whatever the kind, so that later draws do not hang on it.
            int kind = draws.next() % 4;
            int j = draws.next() % 4;
            int k = draws.next() % 4;
            int junkBlock = draws.next() % blocks.count;
            int junkSize = blocks.heights[b] + 3;
            if (kind == 0) {
                return;
            }
            if (kind == 1) {
                writeEvenProduct(k);
                write(IFZERO, flat.count + 1 + junkSize);
            } else {
                if (kind == 2) {
                    writeSquareNeverTwo(k);
                } else {
                    writeSquaresNeverMeet(j, k);
                }
                write(IFZERO, flat.count + 2);
                write(GOTO, flat.count + 1 + junkSize);
            }
            writeJunk(b, junkBlock);
        }

        /** The lowest bit of k * (k + 1), which is 0. */
        private void writeEvenProduct(int k) {
            write(LOAD, k);
            write(DUP);
            write(PUSH, 1);
            write(ADD);
            write(MUL);
            write(PUSH, 1);
            write(AND);
        }

        /** The two lowest bits of k * k against 2, which they never are. */
        private void writeSquareNeverTwo(int k) {
            writeSquare(k);
            write(PUSH, 3);
            write(AND);
            write(PUSH, 2);
            write(XOR);
        }

        /** 7 * j * j - 1 - k * k, which is never 0 by the remainders of squares by 8. */
        private void writeSquaresNeverMeet(int j, int k) {
            writeSquare(j);
            write(PUSH, 7);
            write(MUL);
            write(PUSH, 1);
            write(SUB);
            writeSquare(k);
            write(SUB);
        }

        private void writeSquare(int k) {
            write(LOAD, k);
            write(DUP);
            write(MUL);
        }

        private void writeJunk(int b, int junkBlock) {
            for (int n = 0; n < blocks.heights[b]; n++) {
                write(POP);
            }
            writeGoingTo(blocks.states[junkBlock]);
        }

        private void writeGoingTo(int state) {
            write(PUSH, state);
            write(STORE, STATE_LOCAL);
            write(GOTO, LOOP);
        }

        private void writeInstructions(Code code, int b) {
            int leader = blocks.leaders[b];
            for (int i = leader; i < code.count; i++) {
                if (i > leader && blocks.startingAt[i] != NOWHERE) {
                    writeLead(b, blocks.startingAt[i]);
                    return;
                }
                int operation = code.operations[i];
                if (jumps(operation)) {
                    writeJump(code, b, i);
                    return;
                }
                write(operation, code.operands[i]);
                if (ends(operation)) {
                    return;
                }
            }
        }

        private void writeJump(Code code, int b, int i) {
            if (branches(code.operations[i])) {
                int next = blocks.startingAt[i + 1];
                write(code.operations[i], flat.count + 1 + leadSize(next));
                writeLead(b, next);
            }
            writeLead(b, blocks.startingAt[code.operands[i]]);
        }

        private int leadSize(int t) {
            return blocks.heights[t] + 5;
        }

        private void writeLead(int b, int t) {
            for (int n = blocks.heights[t] - 1; n >= 0; n--) {
                write(STORE, FIRST_ASIDE + n);
            }
            write(LOAD, STATE_LOCAL);
            write(PUSH, blocks.states[b] ^ blocks.states[t]);
            write(XOR);
            write(STORE, STATE_LOCAL);
            write(GOTO, LOOP);
        }

        /** A handler's stub and the flat handlers that lead to it; nothing when no block is in its range. */
        private void writeCatching(Code code, int h) {
            int stub = flat.count;
            boolean used = false;
            for (int n = 0; n < blocks.count; n++) {
                int b = blocks.byState[n];
                if (code.covers(h, blocks.leaders[b])) {
                    flat.appendHandler(blocks.firsts[b], blocks.behinds[b], stub);
                    used = true;
                }
            }
            if (used) {
                write(STORE, FIRST_ASIDE);
                writeGoingTo(blocks.states[blocks.startingAt[code.targets[h]]]);
            }
        }

        private void write(int operation) {
            flat.append(operation, 0);
        }

        private void write(int operation, int a) {
            flat.append(operation, a);
        }
    }

    /** Runs a method, and keeps what the latest run did. */
    private static final class Machine {
        final int[] locals = new int[LOCALS];
        final int[] kept = new int[KEPT_EMITS];
        private final int[] stack = new int[MAX_STACK];
        private int top;
        private int at;
        boolean wasUsed;
        int taken;
        int emitCount;
        int ending;
        int outcome;

        void goFromStart(Code code, Blocks blocks, int[] starters, int limit) {
            begin(starters);
            for (int n = 0; n < limit && ending == GOES_ON && code.has(at); n++) {
                taken = n + 1;
                goThrough(code, blocks);
            }
        }

        private void begin(int[] starters) {
            for (int k = 0; k < LOCALS; k++) {
                locals[k] = k < starters.length ? starters[k] : 0;
            }
            top = 0;
            at = 0;
            wasUsed = true;
            taken = 0;
            emitCount = 0;
            ending = GOES_ON;
            outcome = 0;
        }

        private void goThrough(Code code, Blocks blocks) {
            int a = code.operands[at];
            switch (code.operations[at]) {
                case GOTO:
                    at = a;
                    break;
                case IFZERO:
                    at = pop() == 0 ? a : at + 1;
                    break;
                case IFNEG:
                    at = pop() < 0 ? a : at + 1;
                    break;
                case SWITCH:
                    at = blocks.entry(pop());
                    break;
                case RETURN:
                    end(RETURNED, pop());
                    break;
                case THROW:
                    raise(code, pop());
                    break;
                case DIV:
                    divide(code);
                    break;
                default:
                    work(code.operations[at], a);
                    at++;
                    break;
            }
        }

        /** An operation that always goes to the next instruction. */
        private void work(int operation, int a) {
            switch (operation) {
                case PUSH:
                    push(a);
                    break;
                case LOAD:
                    push(locals[a]);
                    break;
                case STORE:
                    locals[a] = pop();
                    break;
                case DUP:
                    pushBoth(pop());
                    break;
                case POP:
                    pop();
                    break;
                case EMIT:
                    emit(pop());
                    break;
                default:
                    workOnTwo(operation);
                    break;
            }
        }

        private void workOnTwo(int operation) {
            int y = pop();
            int x = pop();
            if (operation == SWAP) {
                push(y);
                push(x);
            } else {
                push(calculated(operation, x, y));
            }
        }

        private static int calculated(int operation, int x, int y) {
            switch (operation) {
                case ADD: return x + y;
                case SUB: return x - y;
                case MUL: return x * y;
                case AND: return x & y;
                default: return x ^ y;
            }
        }

        private void divide(Code code) {
            int y = pop();
            int x = pop();
            if (y == 0) {
                raise(code, -1);
            } else {
                push(x / y);
                at++;
            }
        }

        private void raise(Code code, int thrown) {
            int target = code.catcher(at);
            if (target == NOWHERE) {
                end(THROWN, thrown);
            } else {
                top = 0;
                push(thrown);
                at = target;
            }
        }

        private void end(int how, int with) {
            ending = how;
            outcome = with;
        }

        private void emit(int x) {
            if (emitCount < KEPT_EMITS) {
                kept[emitCount] = x;
            }
            emitCount++;
        }

        private void pushBoth(int x) {
            push(x);
            push(x);
        }

        private void push(int x) {
            if (top < MAX_STACK) {
                stack[top] = x;
                top++;
            }
        }

        private int pop() {
            if (top == 0) {
                return 0;
            }
            top--;
            return stack[top];
        }
    }
}
