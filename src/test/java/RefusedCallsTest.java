import java.util.ArrayList;
import java.util.List;
import java.util.function.Predicate;
import java.util.function.ToLongFunction;

/**
 * What each refused call of promises 2 to 16 leaves as it was: in many states, all that can be seen of the object
 * behind the call is what can be seen of one of the same state that was not called.
 */
public final class RefusedCallsTest {
    private static final int BAD = FunctionRows.BAD;
    private static final int NO = FunctionRows.NO;
    private static final int FULL = FunctionRows.FULL;
    private static final long EIGHT = 0x4142434445464748L;
    private static final long BEYOND = 1_000_000_000_000_001L;
    private static final String LETTERS = "abcdefghijklmnopqrstuvwxyzabcdefghijklmnopqrstuv";
    private static final String LONGEST = "'" + LETTERS.substring(0, 24) + "'";
    private static final String[] LATEST = {"nothing", "error", "true", "-2", "''z", LONGEST + "y", "#999"};
    private static final int[] TAPED = {0, 3, 24, 25, 41, 48};
    private static final int[] SIZES = {0, 1, 7, 79, 80};
    private static final String[] ROW = {"false", "1000000000000000", "''a", LONGEST, "#0", "0", "'q'z"};

    /** What was reckoned latest, the tape's length, how many expressions there are, whether variables have values. */
    record State(String latest, int taped, int size, boolean row) {
        boolean isReckoned() {
            return !latest.equals("nothing") && !latest.equals("error");
        }

        boolean isText() {
            return latest.startsWith("'");
        }

        State withEmptyTape() {
            return new State(latest, 0, size, row);
        }
    }

    /** A call that is refused in some states, the answer that is due there, and the sentence that says so. */
    record Refusal(
        String where, String words, Predicate<State> when, ToLongFunction<FunctionRows> call, long due, String name) {
    }

    private static final List<Refusal> REFUSALS = new ArrayList<>();
    private static String where;
    private static String words;

    public static void main(String[] args) {
        tape();
        texts();
        makers();
        reckoned();
        row();
        shape();
        List<State> states = states();
        for (Refusal refusal : REFUSALS) {
            Check.sentence(refusal.where, refusal.words);
            for (State state : states) {
                if (refusal.when.test(state)) {
                    check(refusal, state);
                }
            }
        }
        Check.end();
    }

    private static void says(String promise, String sentence) {
        where = promise;
        words = sentence;
    }

    private static void refuse(String name, long due, ToLongFunction<FunctionRows> call) {
        refuse(name, due, state -> true, call);
    }

    private static void refuse(String name, long due, Predicate<State> when, ToLongFunction<FunctionRows> call) {
        REFUSALS.add(new Refusal(where, words, when, call, due, name));
    }

    private static void tape() {
        says("Promise 2", "BAD when n is not 1 .. 8, or a byte is not 32 .. 126");
        refuse("type of 0", BAD, x -> x.type(EIGHT, 0));
        refuse("type of 9", BAD, x -> x.type(EIGHT, 9));
        refuse("type of 31 behind others", BAD, x -> x.type(0x41424344451FL, 6));
        refuse("type of 127 before others", BAD, x -> x.type(0x7F4142434445L, 6));
        says("Promise 2", "FULL (nothing comes)");
        refuse("type of 8", FULL, state -> state.taped > 40, x -> x.type(EIGHT, 8));
        refuse("type of 1", FULL, state -> state.taped > 47, x -> x.type(EIGHT, 1));
    }

    private static void texts() {
        says("Promise 3", "which is empty then whatever the answer");
        refuse("text(-1)", BAD, x -> x.text(-1));
        refuse("text(27)", BAD, x -> x.text(27));
        refuse("text(0) of too many bytes", BAD, state -> state.taped > 24, x -> x.text(0));
        refuse("text(26) when there are 80", FULL, state -> state.taped <= 24 && state.size == 80, x -> x.text(26));
    }

    private static void makers() {
        Predicate<State> full = state -> state.size == 80;
        says("Promise 4", "BAD; FULL");
        refuse("whole beyond", BAD, x -> x.whole(BEYOND));
        refuse("whole below", BAD, x -> x.whole(-BEYOND));
        refuse("whole(5)", FULL, full, x -> x.whole(5));
        says("Promise 5", "BAD: another kind, or v is none such; FULL");
        int[][] none = {{1, 2}, {1, -1}, {4, 1000}, {4, -1}, {0, 8}, {0, -1}, {2, 0}, {3, 0}, {5, 0}, {-1, 0}};
        for (int[] leaf : none) {
            refuse("leaf(" + leaf[0] + ", " + leaf[1] + ")", BAD, x -> x.leaf(leaf[0], leaf[1]));
        }
        for (int[] leaf : new int[][] {{1, 1}, {4, 999}, {0, 7}}) {
            refuse("leaf(" + leaf[0] + ", " + leaf[1] + ")", FULL, full, x -> x.leaf(leaf[0], leaf[1]));
        }
        says("Promise 6", "BAD: no such operation, expression; FULL");
        refuse("call of -1", BAD, x -> x.call(-1, 0, 0, 0));
        refuse("call of 30", BAD, x -> x.call(30, 0, 0, 0));
        refuse("call with -1", BAD, x -> x.call(0, -1, 0, 0));
        refuse("call with one too many", BAD, x -> x.call(0, x.size(), 0, 0));
        refuse("call with one too many for b", BAD, x -> x.call(5, 0, x.size(), 0));
        refuse("call with one too many for c", BAD, x -> x.call(11, 0, 0, x.size()));
        refuse("call(22, 0, 1, 2)", FULL, full, x -> x.call(22, 0, 1, 2));
        says("Promise 7", "BAD");
        refuse("takes(-1)", BAD, x -> x.takes(-1));
        refuse("takes(30)", BAD, x -> x.takes(30));
    }

    private static void reckoned() {
        says("Promise 8", "BAD (what was reckoned stays)");
        refuse("run(-1)", BAD, x -> x.run(-1));
        refuse("run of one too many", BAD, x -> x.run(x.size()));
        refuse("run(80)", BAD, x -> x.run(80));
        says("Promise 9", "NO: it was an ERROR, or nothing.");
        refuse("number()", NO, state -> !state.isReckoned(), x -> x.number());
        says("Promise 10", "NO: it was none.");
        refuse("tag()", NO, state -> !state.isText(), x -> x.tag());
        says("Promise 11", "NO: it was none, or has no such byte.");
        refuse("letter(-1)", NO, x -> x.letter(-1));
        refuse("letter(24)", NO, x -> x.letter(24));
        refuse("letter(0)", NO, state -> !state.isText() || state.latest.startsWith("''"), x -> x.letter(0));
    }

    private static void row() {
        says("Promise 12", "BAD: no variable");
        refuse("give(-1)", BAD, x -> x.give(-1));
        refuse("give(8)", BAD, x -> x.give(8));
        says("Promise 12", "NO: it was an ERROR, or nothing (the variable stays)");
        for (int v = 0; v < 8; v++) {
            int variable = v;
            refuse("give(" + v + ")", NO, state -> !state.isReckoned(), x -> x.give(variable));
        }
        says("Promise 13", "0 when it gave none");
        refuse("drop(7)", 0, x -> x.drop(7));
        refuse("drop(0)", 0, state -> !state.row, x -> x.drop(0));
        says("Promise 13", "BAD");
        refuse("drop(-1)", BAD, x -> x.drop(-1));
        refuse("drop(8)", BAD, x -> x.drop(8));
    }

    private static void shape() {
        says("Promise 14", "BAD.");
        refuse("uses(-1)", BAD, x -> x.uses(-1));
        refuse("uses of one too many", BAD, x -> x.uses(x.size()));
        says("Promise 15", "BAD.");
        refuse("depth(-1)", BAD, x -> x.depth(-1));
        refuse("depth of one too many", BAD, x -> x.depth(x.size()));
        says("Promise 16", "No expressions: how many there were");
        refuse("clear() of none", 0, state -> state.size == 0, x -> x.clear());
    }

    private static List<State> states() {
        List<State> all = new ArrayList<>();
        for (String latest : LATEST) {
            for (int taped : TAPED) {
                for (int size : SIZES) {
                    all.add(new State(latest, taped, size, false));
                    // A value must have been reckoned before it is given.
                    if (!latest.equals("nothing")) {
                        all.add(new State(latest, taped, size, true));
                    }
                }
            }
        }
        return all;
    }

    private static void check(Refusal refusal, State state) {
        FunctionRows x = made(state);
        Check.due(refusal.name + " in " + state, refusal.call.applyAsLong(x), refusal.due);
        State due = refusal.name.startsWith("text") ? state.withEmptyTape() : state;
        Check.due("what is seen behind " + refusal.name + " in " + state, seen(x), seen(made(due)));
    }

    private static FunctionRows made(State state) {
        FunctionRows x = new FunctionRows();
        for (int v = 0; v < ROW.length && state.row; v++) {
            x.run(Check.make(x, ROW[v]));
            x.give(v);
        }
        if (!state.latest.equals("nothing")) {
            x.run(Check.make(x, state.latest));
        }
        x.clear();
        for (int e = 0; e < state.size; e++) {
            makeOne(x, e);
        }
        Check.typeAll(x, LETTERS.substring(0, state.taped));
        return x;
    }

    private static void makeOne(FunctionRows x, int e) {
        switch (e % 7) {
            case 0: x.whole(e); break;
            case 1: x.leaf(0, e % 8); break;
            case 2: Check.text(x, "ab", e % 27); break;
            case 3: x.call(5, e - 1, e - 3, 0); break;
            case 4: x.leaf(4, e); break;
            case 5: x.call(23, e - 2, e - 4, 0); break;
            default: x.call(26, e - 6, 0, 0); break;
        }
    }

    /** All that can be seen of an object, as a text; what is seen last changes it. */
    private static String seen(FunctionRows x) {
        StringBuilder all = new StringBuilder("size " + x.size() + ", latest");
        showLatest(x, all);
        int size = x.size();
        for (int e = 0; e < size; e++) {
            all.append("; ").append(x.run(e)).append(' ').append(x.number());
            if (e < 7) {
                all.append(' ').append(x.tag()).append(" uses ").append(x.uses(e)).append(" depth ").append(x.depth(e));
            }
        }
        all.append("; cleared ").append(x.clear());
        for (int v = 0; v < 8; v++) {
            all.append("; variable ").append(v).append(": ").append(x.run(x.leaf(0, v))).append(' ').append(x.number());
            all.append(' ').append(x.tag()).append(' ').append(x.letter(0));
        }
        all.append("; tape ").append(x.type('!', 1));
        int text = x.text(0);
        all.append(", text ").append(text).append(", ").append(x.run(text));
        showLatest(x, all);
        return all.toString();
    }

    private static void showLatest(FunctionRows x, StringBuilder all) {
        all.append(' ').append(x.number()).append(' ').append(x.tag());
        for (int i = 0; i < 24; i++) {
            all.append(' ').append(x.letter(i));
        }
    }
}
