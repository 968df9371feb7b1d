import java.util.ArrayList;
import java.util.List;

/**
 * Learns all that calls can tell of an object: two objects that tell the same are in the same state. It takes the
 * object apart, so the object is of no use afterwards.
 */
final class Probe {
    private final Object stack;
    private final List<String> told = new ArrayList<>();

    private Probe(Object stack) {
        this.stack = stack;
    }

    static List<String> of(Object stack) {
        Probe probe = new Probe(stack);
        probe.askSizes();
        probe.askLayers();
        probe.askBaseImage();
        probe.ask("snapshotDifference", 0);
        probe.ask("snapshotDifference", 1);
        probe.takeTilesAway();
        probe.undoAll();
        probe.restore(0);
        probe.restore(1);
        probe.readText();
        return probe.told;
    }

    /** What masks keep without showing it: the feather, the inversion, and the dabs of a mask of another kind. */
    static List<String> ofMasks(Object stack) {
        Probe probe = new Probe(stack);
        int layers = probe.ask("size", 2);
        for (int layer = 0; layer < layers; layer++) {
            probe.ask("setFeather", layer, 0);
            probe.ask("invertMask", layer);
            probe.ask("setMask", layer, 4, 0, 0, 0, 0);
            for (int i = 0; i < 4; i++) {
                probe.ask("maskValue", layer, i, i);
                probe.ask("maskValue", layer, 3 - i, i);
            }
        }
        return probe.told;
    }

    /** The first difference, or an empty text if there is none. */
    static String difference(List<String> first, List<String> second) {
        for (int i = 0; i < Math.min(first.size(), second.size()); i++) {
            if (!first.get(i).equals(second.get(i))) {
                return first.get(i) + " instead of " + second.get(i);
            }
        }
        return first.size() == second.size() ? "" : "one tells more than the other";
    }

    private int ask(String name, int... arguments) {
        Call call = new Call(name, arguments);
        int answer = call.on(stack);
        told.add(call + " = " + answer);
        return answer;
    }

    private void askSizes() {
        for (int what = 0; what <= 5; what++) {
            ask("size", what);
        }
        for (int what = 0; what <= 2; what++) {
            ask("counter", what);
        }
        ask("strongestLayer");
    }

    private void askLayers() {
        int layers = new Call("size", 2).on(stack);
        for (int layer = 0; layer < layers; layer++) {
            for (int what = 0; what <= 8; what++) {
                ask("layer", layer, what);
            }
            ask("maskValue", layer, 0, 2);
            ask("maskValue", layer, 3, 3);
            ask("cachedTiles", layer);
            ask("sum", layer);
            ask("effect", layer);
            ask("exchangeDifference", layer);
        }
    }

    private void askBaseImage() {
        int width = new Call("size", 0).on(stack);
        int height = new Call("size", 1).on(stack);
        ask("sum", -1);
        for (int y = 0; y < Math.min(height, 5); y++) {
            for (int x = 0; x < Math.min(width, 6); x++) {
                ask("pixel", -1, x, y);
            }
        }
        for (int low = 0; low < 256; low += 16) {
            ask("histogram", -1, low, low + 15);
        }
    }

    /** Tells which tiles are cached, and when they were used. */
    private void takeTilesAway() {
        int tiles = 0;
        for (int layer = 0; layer < new Call("size", 2).on(stack); layer++) {
            tiles += new Call("cachedTiles", layer).on(stack);
        }
        for (int limit = tiles - 1; limit >= 1; limit--) {
            ask("oldestTile");
            ask("setCacheLimit", limit);
        }
        ask("oldestTile");
        ask("clearCache");
    }

    private void undoAll() {
        for (int i = 0; i < 7; i++) {
            if (ask("undo") < 0) {
                break;
            }
            askOutput();
        }
    }

    private void restore(int slot) {
        if (ask("restore", slot) >= 0) {
            askOutput();
        }
    }

    private void readText() {
        ask("append", ';');
        if (ask("loadStack") < 0) {
            ask("clearText");
        } else {
            askOutput();
            ask("layer", 0, 4);
        }
    }

    private void askOutput() {
        ask("size", 0);
        ask("sum", -1);
        ask("sum", ask("size", 2) - 1);
    }
}
