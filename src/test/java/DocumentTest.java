import java.util.ArrayList;
import java.util.List;

/**
 * What the document says as a whole, from its first line to its last, where no promise by itself says it: one loop, one
 * switch, operands put aside, exceptions caught as before, both methods step by step, 512 calls, each operation with
 * what lies below it, and that nothing changes but what is said to.
 */
public final class DocumentTest extends Past {
    /** A method, its handlers and its starters. */
    private record Sample(int[] instructions, int[] handlers, int[] starters) {
        FlowFlattener written() {
            FlowFlattener x = catching(with(instructions), handlers);
            for (int k = 0; k < starters.length; k++) {
                x.starter(k, starters[k]);
            }
            return x;
        }
    }

    private static int[] row(int... numbers) {
        return numbers;
    }

    /** Loops, operands that lie on the stack from block to block, throws that are caught, caught again and not caught. */
    private static final List<Sample> SAMPLES = List.of(
            new Sample(row(LOAD, 0, IFZERO, 9, LOAD, 0, EMIT, 0, LOAD, 0, PUSH, 1, SUB, 0, STORE, 0, GOTO, 0, LOAD, 1, RETURN, 0),
                    row(), row(3, 77)),
            new Sample(row(PUSH, 8, PUSH, 3, LOAD, 0, IFNEG, 6, SUB, 0, GOTO, 7, ADD, 0, DUP, 0, EMIT, 0, PUSH, 4, SWAP, 0,
                    LOAD, 1, IFZERO, 14, GOTO, 14, MUL, 0, RETURN, 0), row(), row(-1, 0)),
            new Sample(row(PUSH, 60, LOAD, 0, DIV, 0, EMIT, 0, LOAD, 0, PUSH, 1, SUB, 0, STORE, 0, GOTO, 0,
                    EMIT, 0, LOAD, 0, RETURN, 0), row(0, 4, 9), row(3)),
            new Sample(row(PUSH, 5, THROW, 0, PUSH, 6, ADD, 0, DUP, 0, STORE, 1, THROW, 0, DUP, 0, EMIT, 0, THROW, 0),
                    row(0, 2, 2, 0, 7, 7), row()),
            new Sample(row(LOAD, 0, LOAD, 1, DIV, 0, LOAD, 2, DIV, 0, RETURN, 0, STORE, 3, LOAD, 3, EMIT, 0, PUSH, 1, STORE, 2,
                    LOAD, 2, IFZERO, 0, PUSH, 1, STORE, 1, GOTO, 0), row(0, 3, 6, 3, 5, 6), row(9, 0, 0)),
            new Sample(row(PUSH, 1, PUSH, 2, PUSH, 3, LOAD, 0, IFZERO, 7, EMIT, 0, GOTO, 9, POP, 0, GOTO, 9, EMIT, 0,
                    RETURN, 0, RETURN, 0), row(5, 8, 11), row(1)));

    private static final int SEEDS = 12;

    // ---- What it is

    private static void oneLoopOneSwitch() {
        sentence("What it is", "the flow of a method is flattened into one loop with a switch over numbers drawn from a seed");
        for (Sample sample : SAMPLES) {
            for (int seed = 0; seed < SEEDS; seed++) {
                FlowFlattener x = sample.written();
                int length = x.flatten(seed);
                for (int i = 0; i < length; i++) {
                    int operation = x.operation(true, i);
                    due("instruction " + i + " is the SWITCH", operation == SWITCH, i == 3);
                    if (operation >= GOTO && operation <= IFNEG) {
                        int a = x.operand(true, i);
                        due("instruction " + i + " goes back to the loop or ahead", a == 2 || a > i, true);
                        due("instruction " + i + " stays inside", a < length, true);
                    }
                }
                int[] drawn = draws(seed, x.blocks());
                for (int b = 0; b < x.blocks(); b++) {
                    due("the number of block " + b, x.block(b, 0), drawn[b]);
                }
            }
        }
    }

    private static void operandsArePutAside() {
        sentence("What it is", "operands on the stack are put aside between blocks");
        FlowFlattener x = with(PUSH, 11, PUSH, 12, PUSH, 13, GOTO, 4, POP, 0, POP, 0, GOTO, 7, EMIT, 0, PUSH, 9, RETURN, 0);
        int seed = plainSeed(3);
        due("flatten", x.flatten(seed), 4 + 3 + 8 + 3 + 2 + 6 + 1 + 3);
        // Into the loop and the first block 7 steps, 8 to lead out of it; 2 and 3, 2 and 6 for the second.
        int[] steps = {4 + 3, 4 + 3 + 8, 4 + 3 + 8 + 2 + 3 + 2 + 6};
        int[][] aside = {{0, 0, 0, 0}, {11, 12, 13, 0}, {11, 12, 13, 0}};
        for (int n = 0; n < steps.length; n++) {
            due("run(true, " + steps[n] + ")", x.run(true, steps[n]), 0);
            for (int k = 5; k <= 8; k++) {
                due("local(" + k + ") after " + steps[n] + " steps", x.local(k), aside[n][k - 5]);
            }
            due("local(4)", x.local(4), x.block(n, 0));
        }
        due("run(true, 400)", x.run(true, 400), 1);
        due("emitted(0)", x.emitted(0), 11);
    }

    /** A throw by DIV or THROW at one of three depths, in ranges that have it or have it not, one or two of them. */
    private static void caughtAsBefore() {
        sentence("What it is", "exceptions are caught as before");
        int caught = 0;
        int uncaught = 0;
        for (int place = 2; place <= 4; place++) {
            for (int from = 0; from <= 5; from++) {
                for (int to = from + 1; to <= 6; to++) {
                    for (int thrower : new int[] {DIV, THROW}) {
                        int ending = sameEnding(place, from, to, thrower);
                        caught += ending == 1 ? 1 : 0;
                        uncaught += ending == 2 ? 1 : 0;
                    }
                }
            }
        }
        due("caught and not caught", caught > 10 && uncaught > 10, true);
    }

    private static int sameEnding(int place, int from, int to, int thrower) {
        FlowFlattener x = new FlowFlattener();
        for (int i = 0; i < place; i++) {
            x.add(LOAD, i % 2);
        }
        x.add(thrower, 0);
        write(x, POP, 0, PUSH, 3, RETURN, 0);
        while (x.length(false) < 9) {
            x.add(POP, 0);
        }
        // Where the two handlers lead: the first throws once more, which only the second may catch.
        write(x, DUP, 0, EMIT, 0, THROW, 0, EMIT, 0, LOAD, 0, RETURN, 0);
        catching(x, from, to, 9, 3, 12, 12);
        x.starter(0, place % 2 == 0 ? 8 : 0);
        x.starter(1, place % 2 == 0 ? 0 : 8);
        String what = thrower + " at " + place + ", caught from " + from + " to " + to;
        due(what + ": check()", x.check(), 0);
        due(what + ": flatten", x.flatten(from * 100 + to) > 0, true);
        int ending = x.run(false, 100);
        due(what + ": it ends", ending == 1 || ending == 2, true);
        List<Integer> seen = outcome(x);
        due(what + ": run(true, 4000)", x.run(true, 4000), ending);
        due(what + ": the same outcome", outcome(x).equals(seen), true);
        boolean byBoth = place >= from && place < to;
        boolean bySecond = place >= 3;
        due(what + ": who catches", x.emits(), byBoth ? 2 : bySecond ? 1 : 0);
        return ending;
    }

    /** What a run did as far as the original and the flat method have it in common. */
    private static List<Integer> outcome(FlowFlattener x) {
        List<Integer> all = new ArrayList<>();
        all.add(x.result());
        all.add(x.emits());
        for (int i = 0; i < x.emits(); i++) {
            all.add(x.emitted(i));
        }
        for (int k = 0; k <= 3; k++) {
            all.add(x.local(k));
        }
        return all;
    }

    /** Each change of what a run did, in order, with a new object for each number of steps. */
    private static List<List<Integer>> history(Sample sample, boolean flat, int seed) {
        List<List<Integer>> all = new ArrayList<>();
        int ending = 0;
        for (int steps = 0; ending == 0 && steps <= 2000; steps++) {
            FlowFlattener x = sample.written();
            x.flatten(seed);
            ending = x.run(flat, steps);
            due("steps()", x.steps(), steps);
            List<Integer> now = outcome(x);
            now.add(ending);
            if (all.isEmpty() || !all.get(all.size() - 1).equals(now)) {
                all.add(now);
            }
        }
        due("it ends", ending == 1 || ending == 2, true);
        return all;
    }

    private static void stepByStep() {
        sentence("What it is", "both methods can be run and compared step by step");
        for (int n = 0; n < SAMPLES.size(); n++) {
            Sample sample = SAMPLES.get(n);
            List<List<Integer>> original = history(sample, false, 0);
            due("sample " + n + " does something", original.size() > 2, true);
            for (int seed = 0; seed < SEEDS; seed++) {
                List<List<Integer>> flat = history(sample, true, seed);
                due("sample " + n + ", seed " + seed + ": the same in the same order", flat.equals(original), true);
            }
        }
    }

    private static void usedFor512Calls() {
        sentence("What it is", "An object is used for at most 512 calls after it has been made");
        FlowFlattener x = new FlowFlattener();
        int calls = 0;
        // 64 rounds of 8 calls, the dear ones among them; each round answers what a new object would.
        for (int round = 0; round < 64; round++) {
            x.clear();
            due("add", x.add(LOAD, 0), 0);
            due("add", x.add(THROW, 0), 1);
            due("handler", x.handler(0, 1 + round % 2, 1), true);
            due("starter", x.starter(0, round), true);
            due("flatten", x.flatten(round) > 0, true);
            due("run", x.run(true, 4000), round % 2 == 0 ? 2 : 0);
            due("result()", x.result(), round % 2 == 0 ? round : NONE);
            calls += 8;
        }
        due("so many calls", calls, MOST_CALLS);
        // One that was filled once, with 51 calls, and was asked ever since.
        FlowFlattener full = past(FULL);
        int left = MOST_CALLS - 51 - 1;
        for (int n = 0; n < left; n++) {
            switch (n % 4) {
                case 0:
                    due("add as number 32", full.add(PUSH, 0), BAD);
                    break;
                case 1:
                    due("a fourth handler", full.handler(0, 1, 0), false);
                    break;
                case 2:
                    due("check()", full.check(), 0);
                    break;
                default:
                    due("run(false, 4000)", full.run(false, 4000), 1);
                    break;
            }
        }
        due("flatten(1) as the 512th call", full.flatten(1), past(FULL).flatten(1));
    }

    // ---- Terms: each operation, with what lies below it

    /** 41 below, then the operands, the operation, and EMIT for each that it puts: the top first. At last the 41. */
    private static void worksOnTheTop(int operation, int a, int[] operands, int... puts) {
        FlowFlattener x = with(PUSH, 41);
        for (int operand : operands) {
            x.add(PUSH, operand);
        }
        x.add(operation, a);
        for (int n = 0; n < puts.length; n++) {
            x.add(EMIT, 0);
        }
        x.add(RETURN, 0);
        for (int k = 0; k < 4; k++) {
            x.starter(k, 20 + k);
        }
        due("flatten", x.flatten(operation) > 0, true);
        for (boolean flat : new boolean[] {false, true}) {
            String what = "operation " + operation + (flat ? " in the flat method" : "");
            due(what + ": run", x.run(flat, 400), 1);
            due(what + ": emits()", x.emits(), puts.length + (operation == EMIT ? 1 : 0));
            for (int n = 0; n < puts.length; n++) {
                due(what + ": put, from the top " + n, x.emitted(n), puts[puts.length - 1 - n]);
            }
            due(what + ": what lies below", x.result(), 41);
            for (int k = 0; k < 4; k++) {
                due(what + ": local " + k, x.local(k), operation == STORE && k == a ? operands[0] : 20 + k);
            }
        }
        due("steps() of the original, one for each", run(x, false), operands.length + puts.length + 3);
    }

    private static int run(FlowFlattener x, boolean flat) {
        x.run(flat, 4000);
        return x.steps();
    }

    private static void eachOperation() {
        sentence("Terms, the operations", "what they take off the stack (the last named is the top) and what they put on it");
        worksOnTheTop(PUSH, -5, row(), -5);
        for (int k = 0; k < 4; k++) {
            worksOnTheTop(LOAD, k, row(), 20 + k);
            worksOnTheTop(STORE, k, row(7));
        }
        worksOnTheTop(ADD, 0, row(9, 4), 13);
        worksOnTheTop(SUB, 0, row(9, 4), 5);
        worksOnTheTop(MUL, 0, row(9, 4), 36);
        worksOnTheTop(DIV, 0, row(9, 4), 2);
        worksOnTheTop(AND, 0, row(9, 5), 1);
        worksOnTheTop(XOR, 0, row(9, 5), 12);
        worksOnTheTop(DUP, 0, row(9), 9, 9);
        worksOnTheTop(SWAP, 0, row(9, 4), 4, 9);
        worksOnTheTop(POP, 0, row(9));
        worksOnTheTop(EMIT, 0, row(9));
    }

    /** 41 below, an x, the operation that goes to 4 or to the next one; what is emitted tells where it went. */
    private static void goesWhere(int operation, int x, boolean goes, int steps) {
        FlowFlattener f = operation == GOTO ? with(PUSH, 41, PUSH, 1, POP, 0) : with(PUSH, 41, PUSH, x);
        f.add(operation, operation == GOTO ? 6 : 5);
        int next = f.length(false);
        write(f, PUSH, 10, EMIT, 0, PUSH, 20, EMIT, 0, RETURN, 0);
        due("flatten", f.flatten(x) > 0, true);
        for (boolean flat : new boolean[] {false, true}) {
            String what = "operation " + operation + " of " + x + " at " + (next - 1) + (flat ? " in the flat method" : "");
            due(what + ": run", f.run(flat, 400), 1);
            due(what + ": emits()", f.emits(), goes ? 1 : 2);
            due(what + ": emitted(0)", f.emitted(0), goes ? 20 : 10);
            due(what + ": what lies below", f.result(), 41);
        }
        due("steps()", run(f, false), steps);
    }

    private static void whereEachGoesOn() {
        sentence("Terms, the operations", "13 GOTO: goes to instruction a. .. All others go to the next instruction, as 14 and 15 do otherwise.");
        goesWhere(GOTO, 0, true, 4 + 3);
        goesWhere(IFZERO, 0, true, 3 + 3);
        goesWhere(IFZERO, 5, false, 3 + 5);
        goesWhere(IFNEG, -5, true, 3 + 3);
        goesWhere(IFNEG, 5, false, 3 + 5);
        goesWhere(IFNEG, 0, false, 3 + 5);
    }

    private static void endings() {
        sentence("Terms, the operations", "16 RETURN: x to -; the method ends with x. 17 THROW: x to -; throws x.");
        for (int ending : new int[] {RETURN, THROW}) {
            FlowFlattener x = with(PUSH, 41, PUSH, 42, ending, 0, EMIT, 0, EMIT, 0);
            due("flatten", x.flatten(3) > 0, true);
            for (boolean flat : new boolean[] {false, true}) {
                due("run", x.run(flat, 400), ending == RETURN ? 1 : 2);
                due("result(), the top", x.result(), 42);
                due("emits(), since it ended", x.emits(), 0);
            }
            due("steps()", run(x, false), 3);
        }
    }

    private static void switchGoesToTheBlock() {
        sentence("Terms, the operations", "18 SWITCH: x to -; goes to where the method has its block with the state x");
        for (int seed = 0; seed < SEEDS; seed++) {
            FlowFlattener x = new FlowFlattener();
            for (int n = 0; n < 10; n++) {
                write(x, PUSH, 100 + n, EMIT, 0, GOTO, 3 * n + 3);
            }
            write(x, PUSH, 1, RETURN, 0);
            due("flatten(" + seed + ")", x.flatten(seed) > 0, true);
            due("run(true, 4000)", x.run(true, 4000), 1);
            for (int n = 0; n < 10; n++) {
                due("seed " + seed + ": block " + n + " as number " + n, x.emitted(n), 100 + n);
            }
            due("local(4), the state of the last", x.local(4), x.block(10, 0));
        }
    }

    // ---- Nothing but what is said changes

    private static void askingChangesNothing() {
        sentence("Not promised", "Nothing is promised beyond the answers and state changes described above: what only asks");
        FlowFlattener[] asked = new FlowFlattener[STATES];
        for (int state : ALL) {
            asked[state] = past(state);
        }
        for (int state : ALL) {
            FlowFlattener like = asked[state];
            changesNothing(state, "check()", FlowFlattener::check, like.check());
            changesNothing(state, "result()", FlowFlattener::result, like.result());
            changesNothing(state, "steps()", FlowFlattener::steps, like.steps());
            changesNothing(state, "emits()", FlowFlattener::emits, like.emits());
            changesNothing(state, "blocks()", FlowFlattener::blocks, like.blocks());
            for (int i = 0; i < 4; i++) {
                int n = i;
                changesNothing(state, "depth", x -> x.depth(n), like.depth(n));
                changesNothing(state, "emitted", x -> x.emitted(n), like.emitted(n));
                changesNothing(state, "local", x -> x.local(n), like.local(n));
                for (boolean flat : new boolean[] {false, true}) {
                    changesNothing(state, "length", x -> x.length(flat), like.length(flat));
                    changesNothing(state, "operation", x -> x.operation(flat, n), like.operation(flat, n));
                    changesNothing(state, "operand", x -> x.operand(flat, n), like.operand(flat, n));
                    changesNothing(state, "handlerAt", x -> x.handlerAt(flat, 0, n), like.handlerAt(flat, 0, n));
                }
                changesNothing(state, "block", x -> x.block(0, n), like.block(0, n));
            }
        }
    }

    /** What stays of an object's past when it has been run anew. */
    private static List<String> rest(FlowFlattener x) {
        List<String> answers = new ArrayList<>();
        x.run(true, 3);
        x.run(false, 3);
        askRest(x, answers);
        return answers;
    }

    private static void runningChangesOnlyTheRun() {
        sentence("Not promised", "Nothing is promised beyond the answers and state changes described above: run");
        for (int state : ALL) {
            List<String> want = rest(past(state));
            for (boolean flat : new boolean[] {false, true}) {
                for (int steps : new int[] {0, 1, 5, 30, 4000}) {
                    FlowFlattener x = past(state);
                    x.run(flat, steps);
                    same(state, "run(" + flat + ", " + steps + ")", rest(x), want);
                }
            }
        }
    }

    private static void theSameAgain() {
        sentence("Not promised", "Nothing is promised beyond the answers and state changes described above: the same again");
        // The same calls answer the same: flatten and run leave nothing behind for the next one.
        for (Sample sample : SAMPLES) {
            FlowFlattener x = sample.written();
            int length = x.flatten(9);
            int ending = x.run(true, 4000);
            int steps = x.steps();
            List<Integer> first = outcome(x);
            x.flatten(8);
            x.run(true, 17);
            x.run(false, 4000);
            due("flatten(9) again", x.flatten(9), length);
            due("run(true, 4000) again", x.run(true, 4000), ending);
            due("steps() again", x.steps(), steps);
            due("the same outcome again", outcome(x).equals(first), true);
        }
    }

    public static void main(String[] args) {
        askUntouched();
        oneLoopOneSwitch();
        operandsArePutAside();
        caughtAsBefore();
        stepByStep();
        usedFor512Calls();
        eachOperation();
        whereEachGoesOn();
        endings();
        switchGoesToTheBlock();
        askingChangesNothing();
        runningChangesOnlyTheRun();
        theSameAgain();
        finish();
    }
}
