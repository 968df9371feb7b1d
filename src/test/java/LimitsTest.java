import java.util.EnumMap;
import java.util.List;
import java.util.Map;

/**
 * Each argument of each promise, in several states: its least and its greatest value are taken, and what follows is
 * as in the reference; the first values beyond them, and the ones far away, are refused, and nothing is changed then.
 */
final class LimitsTest {
    private static final int INVALID = AdjustmentStack.INVALID_ARGUMENT;
    private static final int ILLEGAL = AdjustmentStack.ILLEGAL_STATE;
    private static final int CAPACITY = AdjustmentStack.CAPACITY_EXCEEDED;
    private static final int NONE = AdjustmentStack.NONE;
    private static final Map<State, List<String>> UNTOUCHED = new EnumMap<>(State.class);
    private static final Map<State, List<String>> UNTOUCHED_MASKS = new EnumMap<>(State.class);

    private LimitsTest() {
    }

    public static void main(String[] args) {
        for (State state : State.values()) {
            UNTOUCHED.put(state, Probe.of(made(state)));
            UNTOUCHED_MASKS.put(state, Probe.ofMasks(made(state)));
            for (Limits.Limit limit : Limits.in(made(state))) {
                Check.promise(limit.promise(), state.name());
                refusesBeyond(state, limit);
                takesEnds(state, limit);
            }
        }
        for (int kind = 0; kind <= 13; kind++) {
            parametersOfLayer(kind);
        }
        fullIsFull();
        emptyIsEmpty();
        wrongTexts();
        illegalStates();
        errorsInTheirOrder();
        layersThatDoNotExist();
        questionsChangeNothing();
        Check.end();
    }

    private static AdjustmentStack made(State state) {
        AdjustmentStack stack = new AdjustmentStack();
        state.make(stack);
        return stack;
    }

    private static void refusesBeyond(State state, Limits.Limit limit) {
        int[] beyond = {limit.least() - 1, limit.greatest() + 1, Integer.MIN_VALUE, Integer.MAX_VALUE};
        for (int value : beyond) {
            refused(state, limit.call().with(limit.index(), value), INVALID);
        }
    }

    /** The answer is an error, or NONE, and the object is as if the call had not been made. */
    private static void refused(State state, Call call, int due) {
        Check.due(call.toString(), call.on(made(state)), due);
        changesNothing(state, call);
    }

    private static void changesNothing(State state, Call call) {
        AdjustmentStack stack = made(state);
        call.on(stack);
        String changed = Probe.difference(Probe.of(stack), UNTOUCHED.get(state));
        Check.holds(call + " changes nothing: " + changed, changed.isEmpty());
        stack = made(state);
        call.on(stack);
        changed = Probe.difference(Probe.ofMasks(stack), UNTOUCHED_MASKS.get(state));
        Check.holds(call + " changes no mask: " + changed, changed.isEmpty());
    }

    private static void refused(int promise, State state, String call, int due) {
        Check.promise(promise, state.name());
        refused(state, Call.of(call), due);
    }

    private static void takesEnds(State state, Limits.Limit limit) {
        if (limit.least() <= limit.greatest()) {
            takes(state, limit.call().with(limit.index(), limit.least()));
            takes(state, limit.call().with(limit.index(), limit.greatest()));
        }
    }

    private static void takes(State state, Call call) {
        AdjustmentStack stack = made(state);
        ReferenceStack reference = new ReferenceStack();
        state.make(reference);
        int answer = call.on(stack);
        Check.holds(call + " is possible", answer != INVALID);
        Check.due(call.toString(), answer, call.on(reference));
        String difference = Probe.difference(Probe.of(stack), Probe.of(reference));
        Check.holds("as the document asks after " + call + ": " + difference, difference.isEmpty());
        stack = made(state);
        reference = new ReferenceStack();
        state.make(reference);
        call.on(stack);
        call.on(reference);
        difference = Probe.difference(Probe.ofMasks(stack), Probe.ofMasks(reference));
        Check.holds("masks as the document asks after " + call + ": " + difference, difference.isEmpty());
    }

    private static void parametersOfLayer(int kind) {
        String[] layers = {"0 100 200", "1 0 0", "2 100 0", "3 5 0", "4 0 0", "5 7 0", "6 1 0", "7 1 0", "8 1 0", "9 1 0",
            "10 1 5", "11 0 0", "12 0 0", "13 0 0"};
        Check.promise(7, "setParameters");
        for (Limits.Limit limit : Limits.ofParameters(kind)) {
            int[] beyond = {limit.least() - 1, limit.greatest() + 1, Integer.MIN_VALUE, Integer.MAX_VALUE};
            for (int value : beyond) {
                parametersAre(layers[kind], limit.call().with(limit.index(), value), false);
            }
            parametersAre(layers[kind], limit.call().with(limit.index(), limit.least()), true);
            parametersAre(layers[kind], limit.call().with(limit.index(), limit.greatest()), true);
        }
    }

    private static void parametersAre(String layer, Call call, boolean possible) {
        AdjustmentStack stack = new AdjustmentStack();
        Call.makeAll(stack, "addLayer " + layer + ", prefetch 0");
        int a = stack.layer(0, 1);
        int b = stack.layer(0, 2);
        String about = call + " of addLayer " + layer;
        Check.due(about, call.on(stack), possible ? a : INVALID);
        Check.due("layer(0, 1) after " + about, stack.layer(0, 1), possible ? call.argument(1) + 1000 : a);
        Check.due("layer(0, 2) after " + about, stack.layer(0, 2), possible ? call.argument(2) + 1000 : b);
        Check.due("tiles after " + about, stack.cachedTiles(0), possible ? 0 : 4);
        Check.due("undo() after " + about, stack.undo(), possible ? 1 : 0);
    }

    private static void fullIsFull() {
        refused(6, State.FULL, "addLayer 4 0 0", CAPACITY);
        refused(11, State.FULL, "duplicateLayer 0", CAPACITY);
        refused(11, State.FULL, "duplicateLayer 7", CAPACITY);
        refused(18, State.FULL, "dab 7 1 1 1", CAPACITY);
        refused(20, State.FULL, "append 1", CAPACITY);
        refused(20, State.FULL, "append 255", CAPACITY);
    }

    private static void emptyIsEmpty() {
        refused(31, State.NEW, "oldestTile", NONE);
        refused(35, State.NEW, "strongestLayer", NONE);
        refused(21, State.NEW, "clearText", 0);
        refused(27, State.NEW, "clearCache", 0);
    }

    /** The text of the rich state ends, with its 16 characters, where a token is needed. */
    private static void wrongTexts() {
        refused(22, State.RICH, "loadStack", -10 - 16);
    }

    private static void illegalStates() {
        refused(9, State.RICH, "setEnabled 0 1", ILLEGAL);
        refused(9, State.RICH, "setEnabled 3 0", ILLEGAL);
        refused(37, State.NEW, "snapshotDifference 0", ILLEGAL);
        refused(37, State.NEW, "snapshotDifference 1", ILLEGAL);
        refused(37, State.RICH, "snapshotDifference 1", ILLEGAL);
        refused(37, State.FULL, "snapshotDifference 0", ILLEGAL);
        refused(38, State.NEW, "undo", ILLEGAL);
        refused(40, State.NEW, "restore 0", ILLEGAL);
        refused(40, State.NEW, "restore 1", ILLEGAL);
        refused(40, State.FULL, "restore 0", ILLEGAL);
        refused(40, State.ONE_LAYER, "restore 1", ILLEGAL);
    }

    private static void errorsInTheirOrder() {
        refused(6, State.FULL, "addLayer 14 0 0", INVALID);
        refused(6, State.FULL, "addLayer 1 256 0", INVALID);
        refused(9, State.RICH, "setEnabled 4 1", INVALID);
        refused(11, State.FULL, "duplicateLayer 8", INVALID);
        refused(11, State.FULL, "duplicateLayer -1", INVALID);
        refused(18, State.FULL, "dab 7 16 0 0", INVALID);
        refused(18, State.FULL, "dab 7 0 -1 0", INVALID);
        refused(18, State.FULL, "dab 7 0 0 9", INVALID);
        refused(18, State.FULL, "dab 8 0 0 0", INVALID);
        refused(20, State.FULL, "append 0", INVALID);
        refused(20, State.FULL, "append 256", INVALID);
        refused(37, State.NEW, "snapshotDifference 2", INVALID);
        refused(40, State.NEW, "restore -1", INVALID);
    }

    private static void layersThatDoNotExist() {
        refused(10, State.NEW, "moveLayer 0 0", INVALID);
        refused(10, State.NEW, "moveLayer 0 1", INVALID);
        refused(10, State.ONE_LAYER, "moveLayer 0 0", INVALID);
        refused(10, State.ONE_LAYER, "moveLayer 0 1", INVALID);
        refused(10, State.ONE_LAYER, "moveLayer 1 0", INVALID);
        refused(10, State.ONE_LAYER, "moveLayer -1 0", INVALID);
        refused(10, State.ONE_LAYER, "moveLayer 0 -1", INVALID);
        for (int layer = 0; layer < 8; layer++) {
            refused(10, State.FULL, "moveLayer " + layer + " " + layer, INVALID);
        }
        refused(36, State.NEW, "exchangeDifference 0", INVALID);
        refused(36, State.ONE_LAYER, "exchangeDifference 0", INVALID);
        refused(36, State.FULL, "exchangeDifference 7", INVALID);
        refused(4, State.RICH, "fillRectangle 1 1 6 1 9", INVALID);
        refused(4, State.RICH, "fillRectangle 1 1 1 5 9", INVALID);
        refused(4, State.RICH, "fillRectangle 6 0 1 1 9", INVALID);
        refused(4, State.RICH, "fillRectangle 0 5 1 1 9", INVALID);
        refused(4, State.RICH, "fillRectangle 5 4 2147483643 1 9", INVALID);
        refused(4, State.RICH, "fillRectangle 5 4 1 2147483644 9", INVALID);
    }

    /** Only requests, changes and texts leave a trace; questions do not, in no state. */
    private static void questionsChangeNothing() {
        String[] questions = {"size 4", "counter 1", "oldestTile", "strongestLayer", "sum -1", "histogram -1 0 255",
            "pixel -1 0 0", "snapshotDifference 0", "snapshotDifference 1"};
        String[] ofLayers = {"layer 0 8", "maskValue 0 0 0", "isCached 0 0 0", "cachedTiles 0", "histogram 0 0 9", "sum 0",
            "effect 0", "exchangeDifference 0", "exchangeDifference 2", "effect 3", "sum 3", "maskValue 3 3 3"};
        Check.description("Errors");
        for (State state : State.values()) {
            for (String question : questions) {
                changesNothing(state, Call.of(question));
            }
        }
        for (String question : ofLayers) {
            changesNothing(State.RICH, Call.of(question));
            changesNothing(State.FULL, Call.of(question));
        }
    }
}
