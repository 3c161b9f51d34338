import java.util.ArrayList;
import java.util.List;

/**
 * Objects with a past, and all that can be asked of them: two objects of the same past are compared, one on which a
 * call was made, one on which it was not.
 */
class Past extends TestKit {
    static final int NEW = 0, FINE = 1, SPOILT = 2, FULL = 3, CLEARED = 4, STATES = 5;
    static final int[] ALL = {NEW, FINE, SPOILT, FULL, CLEARED};

    /** An object is used for at most so many calls. */
    static final int MOST_CALLS = 512;

    interface Call {
        long on(FlowFlattener x);
    }

    static long number(boolean b) {
        return b ? 1 : 0;
    }

    /** Emits a 3, divides by 0, catches and emits the -1, and returns 9, with the starters below. */
    static FlowFlattener fine() {
        FlowFlattener x = with(LOAD, 0, IFZERO, 5, LOAD, 0, EMIT, 0, GOTO, 5, PUSH, 7, LOAD, 2, DIV, 0, RETURN, 0,
                EMIT, 0, LOAD, 3, RETURN, 0);
        x.handler(5, 8, 9);
        x.starter(0, 3);
        x.starter(1, 4);
        x.starter(3, 9);
        x.flatten(21);
        x.run(false, 100);
        return x;
    }

    static FlowFlattener past(int state) {
        FlowFlattener x = state == FINE || state == SPOILT || state == CLEARED ? fine() : new FlowFlattener();
        if (state == SPOILT) {
            x.clear();
            write(x, PUSH, 1, IFZERO, 3, ADD, 0, RETURN, 0);
            x.handler(0, 1, 3);
            x.run(true, 20);
        } else if (state == FULL) {
            for (int i = 0; i < 14; i++) {
                write(x, PUSH, i, EMIT, 0);
            }
            write(x, PUSH, 2, RETURN, 0, EMIT, 0, GOTO, 28);
            catching(x, 0, 4, 30, 4, 8, 30, 0, 32, 30);
            x.run(false, 100);
        } else if (state == CLEARED) {
            x.clear();
        }
        return x;
    }

    static void askMethod(FlowFlattener x, boolean flat, List<String> answers) {
        int length = x.length(flat);
        answers.add("length(" + flat + ") " + length);
        for (int i = -1; i <= length; i++) {
            answers.add("operation(" + flat + ", " + i + ") " + x.operation(flat, i));
            answers.add("operand(" + flat + ", " + i + ") " + x.operand(flat, i));
        }
        for (int h = 0; h == 0 || x.handlerAt(flat, h - 1, 0) != BAD; h++) {
            for (int part = 0; part <= 2; part++) {
                answers.add("handlerAt(" + flat + ", " + h + ", " + part + ") " + x.handlerAt(flat, h, part));
            }
        }
    }

    static void askRun(FlowFlattener x, List<String> answers) {
        answers.add("result() " + x.result());
        answers.add("steps() " + x.steps());
        int emits = x.emits();
        answers.add("emits() " + emits);
        for (int i = 0; i <= emits; i++) {
            answers.add("emitted(" + i + ") " + x.emitted(i));
        }
        for (int k = 0; k <= 8; k++) {
            answers.add("local(" + k + ") " + x.local(k));
        }
    }

    /** What all calls answer: first those that only ask, then those by which starters and free room are seen. */
    static List<String> answers(FlowFlattener x) {
        List<String> answers = new ArrayList<>();
        askRun(x, answers);
        askRest(x, answers);
        return answers;
    }

    /** All but what the latest run did. */
    static void askRest(FlowFlattener x, List<String> answers) {
        askMethod(x, false, answers);
        askMethod(x, true, answers);
        answers.add("check() " + x.check());
        for (int i = 0; i <= x.length(false); i++) {
            answers.add("depth(" + i + ") " + x.depth(i));
        }
        answers.add("blocks() " + x.blocks());
        for (int b = 0; b <= x.blocks(); b++) {
            for (int part = 0; part <= 2; part++) {
                answers.add("block(" + b + ", " + part + ") " + x.block(b, part));
            }
        }
        answers.add("run(true, 400) " + x.run(true, 400));
        askRun(x, answers);
        answers.add("run(false, 400) " + x.run(false, 400));
        askRun(x, answers);
        answers.add("flatten(5) " + x.flatten(5));
        answers.add("add(0, 1) " + x.add(PUSH, 1));
        answers.add("handler(0, 1, 0) " + x.handler(0, 1, 0));
        answers.add("length(false) " + x.length(false));
    }

    static final List<List<String>> UNTOUCHED = new ArrayList<>();

    static void askUntouched() {
        for (int state = 0; state < STATES; state++) {
            UNTOUCHED.add(answers(past(state)));
            // Some 160 calls more at most make the object and ask how far to go.
            due("calls of state " + state + " are few enough", UNTOUCHED.get(state).size() < MOST_CALLS - 160, true);
        }
    }

    /** The call is answered so, and all other calls answer what they would have answered without it. */
    static void changesNothing(int state, String what, Call call, long want) {
        FlowFlattener x = past(state);
        due("state " + state + ": " + what, call.on(x), want);
        onlyAsked(state, what, answers(x));
    }

    static void onlyAsked(int state, String what, List<String> got) {
        same(state, what, got, UNTOUCHED.get(state));
    }

    static void same(int state, String what, List<String> got, List<String> want) {
        for (int i = 0; i < Math.min(got.size(), want.size()); i++) {
            if (!got.get(i).equals(want.get(i))) {
                fault("state " + state + ", after " + what + ": " + got.get(i) + ", before it " + want.get(i));
                return;
            }
        }
        due("state " + state + ", after " + what + ": so many answers", got.size(), want.size());
    }
}
