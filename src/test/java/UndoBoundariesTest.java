/** Promises 38 to 40, and undo and snapshots in the description: their boundary cases. */
final class UndoBoundariesTest {
    private static final int INVALID = AdjustmentStack.INVALID_ARGUMENT;
    private static final int ILLEGAL = AdjustmentStack.ILLEGAL_STATE;
    /** Every call that saves a state, in a form that succeeds in a rich state. */
    private static final String[] SAVING = {"newImage 16 4", "setPixel 5 4 255", "fillRectangle 0 0 6 5 0",
        "addLayer 13 0 0", "setParameters 1 3 0", "setBlend 2 7 0", "setEnabled 3 1", "setMask 1 2 0 0 5 0",
        "setFeather 1 5", "invertMask 2", "dab 2 0 0 8", "moveLayer 3 0", "duplicateLayer 2", "removeLayer 0", "flatten 2",
        "loadStack"};
    /** Calls that succeed, and save no state. */
    private static final String[] NOT_SAVING = {"save 0", "save 1", "append 32", "clearText", "pixel 2 0 0", "prefetch 2",
        "setCacheLimit 1", "setTileSize 8", "clearCache", "size 0", "layer 0 0", "maskValue 0 0 0", "isCached 0 0 0",
        "cachedTiles 0", "counter 0", "histogram 0 0 255", "sum 0", "effect 0", "strongestLayer", "exchangeDifference 0",
        "snapshotDifference 0"};
    /** Calls that are refused. */
    private static final String[] REFUSED = {"newImage 3 4", "setPixel 6 0 0", "fillRectangle 0 0 7 1 0", "addLayer 14 0 0",
        "setParameters 0 256 0", "setBlend 0 8 0", "setEnabled 0 1", "setMask 0 5 0 0 0 0", "setFeather 0 6",
        "invertMask 4", "dab 0 16 0 0", "moveLayer 0 0", "duplicateLayer 4", "removeLayer 4", "flatten 4", "loadStack",
        "restore 2", "save 2"};

    private UndoBoundariesTest() {
    }

    public static void main(String[] args) {
        everySavingCall();
        unchangingCallsAreSaved();
        callsThatSaveNothing();
        fromNoneToSevenStates();
        theSeventhDiscardsTheOldest();
        undoOfEverySize();
        whatIsNoPartOfTheState();
        slotsThatDoNotExist();
        savingKeepsTheRest();
        copiesAreIndependent();
        restoreDiscardsStates();
        restoreOfEverything();
        restoreOfEmptySlots();
        Check.end();
    }

    private static AdjustmentStack rich(String calls) {
        AdjustmentStack x = new AdjustmentStack();
        State.RICH.make(x);
        Call.makeAll(x, calls);
        return x;
    }

    /** Both rows of calls lead to the same state. */
    private static void same(String calls, String others) {
        String difference = Probe.difference(Probe.of(rich(calls)), Probe.of(rich(others)));
        Check.holds(calls + " is as " + others + ": " + difference, difference.isEmpty());
        difference = Probe.difference(Probe.ofMasks(rich(calls)), Probe.ofMasks(rich(others)));
        Check.holds(calls + " leaves masks as " + others + ": " + difference, difference.isEmpty());
    }

    /** After the call and undo() all is as it was, but that no tile is cached; loadStack() needs a text, and empties it. */
    private static void everySavingCall() {
        Check.description("Undo: every call that saves the state that preceded it");
        for (String call : SAVING) {
            Check.due("undo() of " + call, rich("append 59, " + call).undo(), 3);
            same("append 59, " + call + ", clearText, undo", "clearText, clearCache");
        }
    }

    private static void unchangingCallsAreSaved() {
        Check.description("Undo: every successful call saves, also where all stays as it was");
        String[] calls = {"newImage 8 8", "setPixel 0 0 0", "fillRectangle 1 0 1 1 17", "setParameters 0 7 0",
            "setBlend 0 0 100", "setMask 0 0 0 0 0 0", "setFeather 0 0"};
        AdjustmentStack x = new AdjustmentStack();
        x.addLayer(1, 7, 0);
        for (String call : calls) {
            Check.holds(call + " succeeds", Call.of(call).on(x) >= 0);
            Check.due("undo() of " + call, x.undo(), 1);
        }
        Check.due("undo() of addLayer", x.undo(), 0);
        Check.due("loadStack() of an empty text", x.loadStack(), 0);
        Check.due("undo() of it", x.undo(), 0);
        Check.due("undo() then", x.undo(), ILLEGAL);
    }

    private static void callsThatSaveNothing() {
        Check.description("Undo: no other call saves a state");
        for (String call : NOT_SAVING) {
            AdjustmentStack x = rich("");
            Check.holds(call + " succeeds", Call.of(call).on(x) >= 0);
            Check.due("undo() after " + call, x.undo(), 2);
            Check.due("setEnabled was the last call that saved", x.layer(3, 5), 1);
        }
        for (String call : REFUSED) {
            AdjustmentStack x = rich("");
            Check.holds(call + " is refused", Call.of(call).on(x) < 0);
            Check.due("undo() after " + call, x.undo(), 2);
            Check.due("setEnabled was the last call that saved", x.layer(3, 5), 1);
        }
        AdjustmentStack x = rich("");
        for (int left = 2; left >= 0; left--) {
            Check.due("undo() itself saves nothing", x.undo(), left);
        }
        Check.due("undo() at the end", x.undo(), ILLEGAL);
        Check.due("undo() once more", x.undo(), ILLEGAL);
    }

    private static void fromNoneToSevenStates() {
        Check.promise(38, "undo");
        for (int changes = 0; changes <= 9; changes++) {
            AdjustmentStack x = new AdjustmentStack();
            for (int i = 1; i <= changes; i++) {
                x.setPixel(3, 3, 100 + i);
            }
            int states = Math.min(changes, 6);
            for (int left = states - 1; left >= 0; left--) {
                Check.due("undo() of " + changes + " changes", x.undo(), left);
                int value = changes - (states - left);
                Check.due("the pixel", x.pixel(-1, 3, 3), value == 0 ? 138 : 100 + value);
            }
            int last = x.pixel(-1, 3, 3);
            Check.due("undo() of " + changes + " changes, at the end", x.undo(), ILLEGAL);
            Check.due("the pixel stays", x.pixel(-1, 3, 3), last);
        }
    }

    /** Undo makes room, so that the next states are saved without discarding any. */
    private static void theSeventhDiscardsTheOldest() {
        Check.description("Undo: at most 6 states are saved");
        AdjustmentStack x = new AdjustmentStack();
        for (int i = 0; i < 7; i++) {
            x.addLayer(1, i, 0);
        }
        Check.due("undo() of the seventh", x.undo(), 5);
        Check.due("undo() of the sixth", x.undo(), 4);
        Check.due("five layers", x.size(2), 5);
        Check.due("addLayer", x.addLayer(4, 0, 0), 5);
        Check.due("addLayer", x.addLayer(4, 0, 0), 6);
        Check.due("addLayer discards the second state", x.addLayer(4, 0, 0), 7);
        for (int left = 5; left >= 0; left--) {
            Check.due("undo()", x.undo(), left);
            Check.due("layers", x.size(2), left + 2);
        }
        Check.due("undo() at the end", x.undo(), ILLEGAL);
        Check.due("two layers stay", x.size(2), 2);
    }

    private static void undoOfEverySize() {
        Check.promise(38, "undo");
        AdjustmentStack x = new AdjustmentStack();
        Call.makeAll(x, "fillRectangle 0 0 8 8 1, newImage 16 16, fillRectangle 0 0 16 16 2, newImage 4 4");
        Check.due("undo()", x.undo(), 3);
        Check.due("the greatest image", x.sum(-1), 512);
        Check.due("its last pixel", x.pixel(-1, 15, 15), 2);
        Check.due("undo()", x.undo(), 2);
        Check.due("as it was made", x.pixel(-1, 15, 15), 178);
        Check.due("undo()", x.undo(), 1);
        Check.due("8 by 8", x.sum(-1), 64);
        Check.due("no pixel more", x.pixel(-1, 8, 0), INVALID);
        Check.due("undo()", x.undo(), 0);
        Check.due("the first image", x.pixel(-1, 7, 7), 66);
    }

    private static void whatIsNoPartOfTheState() {
        Check.description("Undo: the state consists of the base image and the layers with their masks");
        String[] ways = {"undo", "restore 0"};
        for (String way : ways) {
            AdjustmentStack x = new AdjustmentStack();
            Call.makeAll(x, "addLayer 4 0 0, save 0, setPixel 0 0 9, setTileSize 2, setCacheLimit 5, append 120, "
                + "prefetch 0, prefetch 0, pixel 0 0 0, save 1, " + way);
            Check.due("the side of tiles after " + way, x.size(3), 2);
            Check.due("the limit after " + way, x.size(5), 5);
            Check.due("computed after " + way, x.counter(0), 28);
            Check.due("found after " + way, x.counter(1), 5);
            Check.due("dropped after " + way, x.counter(2), 23);
            Check.due("the text after " + way, x.clearText(), 1);
            Check.due("the other slot after " + way, x.snapshotDifference(1), 1);
            Check.due("the base image after " + way, x.pixel(-1, 0, 0), 0);
        }
    }

    private static void slotsThatDoNotExist() {
        int[] wrong = {-1, 2, 3, Integer.MIN_VALUE, Integer.MAX_VALUE};
        AdjustmentStack x = rich("save 0, save 1");
        for (int slot : wrong) {
            Check.promise(39, "save");
            Check.due("save(" + slot + ")", x.save(slot), INVALID);
            Check.promise(40, "restore");
            Check.due("restore(" + slot + ")", x.restore(slot), INVALID);
            Check.due("restore(" + slot + ") of a new object", new AdjustmentStack().restore(slot), INVALID);
        }
        Check.due("no states are discarded", x.undo(), 2);
    }

    private static void savingKeepsTheRest() {
        Check.promise(39, "save");
        AdjustmentStack x = new AdjustmentStack();
        Check.due("no layers", x.save(0), 0);
        for (int i = 1; i <= 8; i++) {
            x.addLayer(4, 0, 0);
            Check.due("slot 0", x.save(0), i);
            Check.due("slot 1", x.save(1), i);
        }
        same("save 0, save 0", "save 0");
        same("invertMask 0, save 0, undo, save 0", "clearCache, save 0");
        x = rich("");
        int tiles = x.cachedTiles(0) + x.cachedTiles(1) + x.cachedTiles(2);
        x.save(0);
        Check.due("the tiles stay", x.clearCache(), tiles);
    }

    private static void copiesAreIndependent() {
        Check.promise(39, "save");
        AdjustmentStack x = new AdjustmentStack();
        Call.makeAll(x, "addLayer 12 5 0, dab 0 1 1 1, save 0, setPixel 0 0 200, dab 0 2 2 2, setParameters 0 6 0, "
            + "setEnabled 0 0, addLayer 4 0 0, save 1, removeLayer 1, removeLayer 0, newImage 4 4");
        Check.due("restore(0)", x.restore(0), 1);
        Check.due("the pixel there", x.pixel(-1, 0, 0), 0);
        Check.due("the dabs there", x.layer(0, 8), 1);
        Check.due("the parameter there", x.layer(0, 1), 1005);
        Check.due("enabled there", x.layer(0, 5), 1);
        Check.due("restore(1)", x.restore(1), 2);
        Check.due("the pixel in the other slot", x.pixel(-1, 0, 0), 200);
        Check.due("the dabs in the other slot", x.layer(0, 8), 2);
        Check.due("not enabled in the other slot", x.layer(0, 5), 0);
    }

    private static void restoreDiscardsStates() {
        Check.promise(40, "restore");
        AdjustmentStack x = new AdjustmentStack();
        Call.makeAll(x, "save 0, restore 0");
        Check.due("undo() of none", x.undo(), ILLEGAL);
        for (int changes = 1; changes <= 7; changes++) {
            for (int i = 0; i < changes; i++) {
                x.setPixel(0, 0, 50 + i);
            }
            Check.due("restore(0)", x.restore(0), 0);
            Check.due("undo() of " + changes + " discarded states", x.undo(), ILLEGAL);
            Check.due("the pixel", x.pixel(-1, 0, 0), 0);
        }
        x.setPixel(0, 0, 1);
        x.setPixel(0, 0, 2);
        Check.due("undo() of what came after", x.undo(), 1);
        Check.due("a refused restore discards nothing", x.restore(1), ILLEGAL);
        Check.due("undo()", x.undo(), 0);
    }

    /** Whatever is done between, restore() brings back all that was saved, again and again. */
    private static void restoreOfEverything() {
        Check.promise(40, "restore");
        for (String call : SAVING) {
            String calls = "append 59, save 1, " + call + ", clearText";
            Check.due("restore(1) after " + call, rich(calls).restore(1), 4);
            same(calls + ", restore 1, addLayer 4 0 0, invertMask 0, setBlend 1 1 1, restore 1",
                "save 1, restore 1, clearText");
        }
    }

    private static void restoreOfEmptySlots() {
        Check.promise(40, "restore");
        AdjustmentStack x = new AdjustmentStack();
        Check.due("slot 0", x.restore(0), ILLEGAL);
        Check.due("slot 1", x.restore(1), ILLEGAL);
        x.save(1);
        Check.due("slot 0, still empty", x.restore(0), ILLEGAL);
        Check.due("slot 1, no longer empty", x.restore(1), 0);
        Call.makeAll(x, "addLayer 4 0 0, prefetch 0");
        Check.due("slot 0, still empty", x.restore(0), ILLEGAL);
        Check.due("the layer stays", x.size(2), 1);
        Check.due("its tiles stay", x.cachedTiles(0), 4);
        Check.due("its state is kept", x.undo(), 0);
    }
}
