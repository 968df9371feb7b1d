/** Promises 6 to 14: the boundary cases of calls that add, change, move, remove and tell layers. */
final class LayersBoundariesTest {
    private static final int INVALID = AdjustmentStack.INVALID_ARGUMENT;
    private static final int ILLEGAL = AdjustmentStack.ILLEGAL_STATE;
    private static final int FULL = AdjustmentStack.CAPACITY_EXCEEDED;

    private LayersBoundariesTest() {
    }

    public static void main(String[] args) {
        addTheFirstAndTheLast();
        addKeepsTiles();
        parametersThatBoundEachOther();
        leastAndGreatestPrevious();
        parametersOfLayersThatAreNotEnabled();
        blendsAtTheirEnds();
        enabledFromNoneToAll();
        moveFromEndToEnd();
        moveNeighbours();
        moveAndTiles();
        duplicateUntilFull();
        duplicateAndTiles();
        removeUntilEmpty();
        removeAndTiles();
        flattenAllAndOne();
        flattenComputesWithoutCache();
        flattenAndTiles();
        propertiesAtTheirEnds();
        Check.end();
    }

    /** Layers of brightness 1, 2, 4, .. over a black image, and all tiles of them. */
    private static AdjustmentStack stackOf(int layers) {
        AdjustmentStack x = new AdjustmentStack();
        Call.makeAll(x, "fillRectangle 0 0 8 8 0, setCacheLimit 64");
        for (int i = 0; i < layers; i++) {
            x.addLayer(1, 1 << i, 0);
        }
        x.prefetch(layers - 1);
        return x;
    }

    private static void addends(AdjustmentStack x, String when, int... due) {
        Check.due("layers " + when, x.size(2), due.length);
        for (int i = 0; i < due.length; i++) {
            Check.due("layer(" + i + ", 1) " + when, x.layer(i, 1) - 1000, due[i]);
        }
        Check.due("the layer after the top one " + when, x.layer(due.length, 1), INVALID);
    }

    /** How many tiles of each layer are cached; none was dropped. */
    private static void tiles(AdjustmentStack x, String when, int... due) {
        for (int i = 0; i < due.length; i++) {
            Check.due("tiles of layer " + i + " " + when, x.cachedTiles(i), due[i]);
        }
        Check.due("dropped " + when, x.counter(2), 0);
    }

    private static void addTheFirstAndTheLast() {
        Check.promise(6, "addLayer");
        AdjustmentStack x = new AdjustmentStack();
        for (int i = 0; i < 8; i++) {
            Check.due("addLayer", x.addLayer(i == 0 ? 0 : 13, 0, i == 0 ? 1 : 0), i);
        }
        Check.due("the bottom layer is the first one", x.layer(0, 0), 0);
        Check.due("the top layer is the last one", x.layer(7, 0), 13);
        Check.due("a ninth layer", x.addLayer(13, 0, 0), FULL);
        Check.due("a ninth layer of no kind", x.addLayer(-1, 0, 0), INVALID);
        Check.due("a ninth layer with a wrong a", x.addLayer(12, 256, 0), INVALID);
        Check.due("a ninth layer with a wrong b", x.addLayer(12, 255, 1), INVALID);
        Check.due("size(2)", x.size(2), 8);
        Check.due("only 8 layers saved a state, and 6 are kept", x.undo(), 5);
        Check.due("room again", x.addLayer(4, 0, 0), 7);
    }

    private static void addKeepsTiles() {
        Check.promise(6, "addLayer");
        AdjustmentStack x = stackOf(3);
        Check.due("addLayer(4, 0, 0)", x.addLayer(4, 0, 0), 3);
        tiles(x, "after addLayer", 4, 4, 4, 0);
        Check.due("the oldest tile stays", x.oldestTile(), 0);
        Check.due("the new layer works", x.pixel(3, 0, 0), 255 - 7);
    }

    private static void parametersThatBoundEachOther() {
        Check.promise(6, "addLayer");
        int[][] possible = {{0, 254, 255}, {0, 0, 255}, {0, 0, 1}, {0, 127, 128}, {10, 3, 300}, {10, 1, 0}, {11, -3, 3},
            {11, 3, -3}, {5, 256, 0}, {2, 400, 0}, {13, 0, 0}};
        for (int[] each : possible) {
            AdjustmentStack x = new AdjustmentStack();
            Check.due("addLayer(" + each[0] + ", " + each[1] + ", " + each[2] + ")",
                x.addLayer(each[0], each[1], each[2]), 0);
            Check.due("layer(0, 1)", x.layer(0, 1), 1000 + each[1]);
            Check.due("layer(0, 2)", x.layer(0, 2), 1000 + each[2]);
        }
        int[][] wrong = {{0, 255, 255}, {0, 255, 256}, {0, 0, 0}, {0, 1, 0}, {0, 254, 254}, {0, -1, 0}, {0, 0, 256},
            {10, 4, 0}, {10, 1, 301}, {10, 1, -1}, {10, 0, 0}, {11, 4, 0}, {11, 0, 4}, {13, 1, 0}, {13, 0, 1}, {4, 1, 0},
            {4, 0, 1}, {12, 0, 1}, {7, 3, 0}};
        AdjustmentStack x = new AdjustmentStack();
        for (int[] each : wrong) {
            Check.due("addLayer(" + each[0] + ", " + each[1] + ", " + each[2] + ")",
                x.addLayer(each[0], each[1], each[2]), INVALID);
        }
        Check.due("no layer", x.size(2), 0);
        Check.due("nothing is saved", x.undo(), ILLEGAL);
    }

    private static void leastAndGreatestPrevious() {
        Check.promise(7, "setParameters");
        AdjustmentStack x = new AdjustmentStack();
        Call.makeAll(x, "addLayer 1 -255 0, addLayer 2 0 0, addLayer 4 0 0, addLayer 0 254 255");
        Check.due("the least previous parameter", x.setParameters(0, 255, 0), 745);
        Check.due("it is 255 then", x.setParameters(0, 255, 0), 1255);
        Check.due("contrast 0", x.setParameters(1, 400, 0), 1000);
        Check.due("the greatest previous parameter", x.setParameters(1, 400, 0), 1400);
        Check.due("a kind without parameters", x.setParameters(2, 0, 0), 1000);
        Check.due("a of a kind without parameters", x.setParameters(2, 1, 0), INVALID);
        Check.due("b of a kind without parameters", x.setParameters(2, 0, 1), INVALID);
        Check.due("both at once", x.setParameters(3, 0, 1), 1254);
        Check.due("b would be less than a", x.setParameters(3, 1, 1), INVALID);
        Check.due("the parameters stay", x.layer(3, 1), 1000);
        Check.due("the same ones are saved as well", x.setParameters(3, 0, 1), 1000);
        Check.due("all of them saved a state, and 6 are kept", x.undo(), 5);
    }

    private static void parametersOfLayersThatAreNotEnabled() {
        Check.promise(7, "setParameters");
        AdjustmentStack x = stackOf(4);
        x.setEnabled(1, 0);
        x.prefetch(3);
        Check.due("of a layer that is not enabled", x.setParameters(1, 9, 0), 1002);
        tiles(x, "after it", 4, 0, 0, 0);
        x.prefetch(3);
        Check.due("the same parameter", x.setParameters(3, 8, 0), 1008);
        tiles(x, "after the top one", 4, 0, 4, 0);
        Check.due("the bottom one", x.setParameters(0, 0, 0), 1001);
        tiles(x, "after the bottom one", 0, 0, 0, 0);
    }

    private static void blendsAtTheirEnds() {
        Check.promise(8, "setBlend");
        AdjustmentStack x = stackOf(3);
        Check.due("setBlend(2, 0, 100), as it is", x.setBlend(2, 0, 100), 100);
        tiles(x, "after the top one", 4, 4, 0);
        Check.due("setBlend(0, 0, 0)", x.setBlend(0, 0, 0), 100);
        tiles(x, "after the bottom one", 0, 0, 0);
        Check.due("setBlend(0, 7, 1)", x.setBlend(0, 7, 1), 0);
        Check.due("setBlend(0, 8, 1)", x.setBlend(0, 8, 1), INVALID);
        Check.due("setBlend(0, 7, 101)", x.setBlend(0, 7, 101), INVALID);
        Check.due("setBlend(3, 7, 1)", x.setBlend(3, 7, 1), INVALID);
        Check.due("setBlend(0, 7, 99)", x.setBlend(0, 7, 99), 1);
        Check.due("the mode", x.layer(0, 3), 7);
        Check.due("the opacity", x.layer(0, 4), 99);
        Check.due("other layers keep theirs", x.layer(1, 4), 100);
        Check.due("undo()", x.undo(), 5);
        Check.due("the opacity again", x.layer(0, 4), 1);
    }

    private static void enabledFromNoneToAll() {
        Check.promise(9, "setEnabled");
        AdjustmentStack x = stackOf(8);
        for (int layer = 7; layer >= 0; layer--) {
            Check.due("setEnabled(" + layer + ", 1)", x.setEnabled(layer, 1), ILLEGAL);
            Check.due("its tiles stay", x.cachedTiles(layer), 4);
            Check.due("setEnabled(" + layer + ", 0)", x.setEnabled(layer, 0), layer);
            Check.due("its tiles go", x.cachedTiles(layer), 0);
        }
        Check.due("none is enabled", x.setEnabled(0, 0), ILLEGAL);
        Check.due("the sum is that of the base image", x.sum(7), 0);
        for (int layer = 0; layer < 8; layer++) {
            Check.due("setEnabled(" + layer + ", 0)", x.setEnabled(layer, 0), ILLEGAL);
            Check.due("setEnabled(" + layer + ", 1)", x.setEnabled(layer, 1), layer + 1);
        }
        Check.due("setEnabled(8, 1)", x.setEnabled(8, 1), INVALID);
        Check.due("setEnabled(7, 2), though it is enabled", x.setEnabled(7, 2), INVALID);
        Check.due("setEnabled(7, -1)", x.setEnabled(7, -1), INVALID);
        Check.due("undo()", x.undo(), 5);
        Check.due("the top layer is not enabled", x.layer(7, 5), 0);
    }

    private static void moveFromEndToEnd() {
        Check.promise(10, "moveLayer");
        AdjustmentStack x = new AdjustmentStack();
        Call.makeAll(x, "addLayer 0 0 1");
        for (int i = 1; i < 7; i++) {
            x.addLayer(1, i, 0);
        }
        Call.makeAll(x, "addLayer 13 0 0, dab 7 1 1 1, setBlend 7 3 30, setEnabled 7 0");
        Check.due("moveLayer(7, 0)", x.moveLayer(7, 0), 13);
        addends(x, "after the top one went down", 0, 0, 1, 2, 3, 4, 5, 6);
        int[] moved = {13, 1000, 1000, 3, 30, 0, 16, 4, 1};
        for (int what = 0; what < moved.length; what++) {
            Check.due("layer(0, " + what + ")", x.layer(0, what), moved[what]);
        }
        Check.due("moveLayer(1, 7)", x.moveLayer(1, 7), 0);
        addends(x, "after a layer went up", 0, 1, 2, 3, 4, 5, 6, 0);
        Check.due("layer(7, 0)", x.layer(7, 0), 0);
        Check.due("moveLayer(8, 0)", x.moveLayer(8, 0), INVALID);
        Check.due("moveLayer(0, 8)", x.moveLayer(0, 8), INVALID);
        Check.due("moveLayer(0, 0)", x.moveLayer(0, 0), INVALID);
        Check.due("moveLayer(7, 7)", x.moveLayer(7, 7), INVALID);
        Check.due("moveLayer(-1, -1)", x.moveLayer(-1, -1), INVALID);
        Check.due("moveLayer(8, 8)", x.moveLayer(8, 8), INVALID);
        Check.due("undo()", x.undo(), 5);
        addends(x, "after undo", 0, 0, 1, 2, 3, 4, 5, 6);
    }

    private static void moveNeighbours() {
        Check.promise(10, "moveLayer");
        AdjustmentStack x = new AdjustmentStack();
        Call.makeAll(x, "addLayer 1 7 0, addLayer 4 0 0");
        Check.due("moveLayer(0, 1)", x.moveLayer(0, 1), 1);
        addends(x, "after one of two went up", 0, 7);
        Check.due("moveLayer(1, 0)", x.moveLayer(1, 0), 1);
        addends(x, "after it went down", 7, 0);
        Check.due("moveLayer(1, 2)", x.moveLayer(1, 2), INVALID);
        Check.due("moveLayer(0, -1)", x.moveLayer(0, -1), INVALID);
        Check.due("undo()", x.undo(), 3);
    }

    private static void moveAndTiles() {
        Check.promise(10, "moveLayer");
        AdjustmentStack x = stackOf(4);
        x.moveLayer(3, 2);
        tiles(x, "after moveLayer(3, 2)", 4, 4, 0, 0);
        x.prefetch(3);
        x.moveLayer(1, 3);
        tiles(x, "after moveLayer(1, 3)", 4, 0, 0, 0);
        x.prefetch(3);
        x.moveLayer(3, 1);
        tiles(x, "after moveLayer(3, 1)", 4, 0, 0, 0);
        x.prefetch(3);
        x.moveLayer(0, 1);
        tiles(x, "after moveLayer(0, 1)", 0, 0, 0, 0);
        x.prefetch(3);
        x.moveLayer(2, 0);
        tiles(x, "after moveLayer(2, 0)", 0, 0, 0, 0);
    }

    private static void duplicateUntilFull() {
        Check.promise(11, "duplicateLayer");
        AdjustmentStack x = new AdjustmentStack();
        Check.due("without layers", x.duplicateLayer(0), INVALID);
        Call.makeAll(x, "addLayer 1 5 0, addLayer 1 6 0");
        Check.due("the bottom layer", x.duplicateLayer(0), 1);
        addends(x, "after that", 5, 5, 6);
        Check.due("the top layer", x.duplicateLayer(2), 3);
        addends(x, "after that", 5, 5, 6, 6);
        Check.due("one above the top layer", x.duplicateLayer(4), INVALID);
        Check.due("-1", x.duplicateLayer(-1), INVALID);
        for (int layers = 5; layers <= 8; layers++) {
            Check.due("duplicateLayer(1) of " + (layers - 1), x.duplicateLayer(1), 2);
            Check.due("size(2)", x.size(2), layers);
        }
        addends(x, "when full", 5, 5, 5, 5, 5, 5, 6, 6);
        for (int layer = 0; layer < 8; layer++) {
            Check.due("when full", x.duplicateLayer(layer), FULL);
        }
        Check.due("when full, 8", x.duplicateLayer(8), INVALID);
        Check.due("when full, -1", x.duplicateLayer(-1), INVALID);
        addends(x, "still", 5, 5, 5, 5, 5, 5, 6, 6);
        Check.due("undo()", x.undo(), 5);
        Check.due("room again", x.duplicateLayer(6), 7);
    }

    private static void duplicateAndTiles() {
        Check.promise(11, "duplicateLayer");
        AdjustmentStack x = stackOf(3);
        x.duplicateLayer(2);
        tiles(x, "after the top one", 4, 4, 4, 0);
        x.prefetch(3);
        x.duplicateLayer(0);
        tiles(x, "after the bottom one", 4, 0, 0, 0, 0);
        Check.due("pixel of the top", x.pixel(4, 7, 7), 1 + 1 + 2 + 4 + 4);
    }

    private static void removeUntilEmpty() {
        Check.promise(12, "removeLayer");
        AdjustmentStack x = new AdjustmentStack();
        Check.due("without layers", x.removeLayer(0), INVALID);
        for (int i = 0; i < 8; i++) {
            x.addLayer(1, i, 0);
        }
        Check.due("removeLayer(8)", x.removeLayer(8), INVALID);
        Check.due("removeLayer(7)", x.removeLayer(7), 7);
        addends(x, "after the top one went", 0, 1, 2, 3, 4, 5, 6);
        Check.due("removeLayer(7) again", x.removeLayer(7), INVALID);
        Check.due("removeLayer(0)", x.removeLayer(0), 6);
        addends(x, "after the bottom one went", 1, 2, 3, 4, 5, 6);
        Check.due("removeLayer(3)", x.removeLayer(3), 5);
        addends(x, "after one of the middle went", 1, 2, 3, 5, 6);
        for (int left = 4; left >= 0; left--) {
            Check.due("removeLayer(0)", x.removeLayer(0), left);
        }
        Check.due("of none", x.removeLayer(0), INVALID);
        Check.due("the output is the base image", x.pixel(-1, 1, 0), 17);
        Check.due("undo()", x.undo(), 5);
        addends(x, "after undo", 6);
    }

    private static void removeAndTiles() {
        Check.promise(12, "removeLayer");
        AdjustmentStack x = stackOf(4);
        x.removeLayer(3);
        tiles(x, "after the top one went", 4, 4, 4);
        x.removeLayer(1);
        tiles(x, "after one of the middle went", 4, 0);
        x.prefetch(1);
        x.removeLayer(0);
        tiles(x, "after the bottom one went", 0);
        x.prefetch(0);
        x.removeLayer(0);
        Check.due("tiles after the last one went", x.clearCache(), 0);
    }

    private static void flattenAllAndOne() {
        Check.promise(13, "flatten");
        AdjustmentStack x = new AdjustmentStack();
        Check.due("without layers", x.flatten(0), INVALID);
        x = stackOf(8);
        x.setParameters(7, -100, 0);
        Check.due("flatten(8)", x.flatten(8), INVALID);
        Check.due("flatten(-1)", x.flatten(-1), INVALID);
        Check.due("the bottom one of 8", x.flatten(0), 7);
        addends(x, "after that", 2, 4, 8, 16, 32, 64, -100);
        Check.due("the base image", x.sum(-1), 64);
        Check.due("all of 7", x.flatten(6), 0);
        addends(x, "after all");
        Check.due("the base image", x.sum(-1), 64 * 27);
        Check.due("of none", x.flatten(0), INVALID);
        Check.due("undo()", x.undo(), 5);
        addends(x, "after undo", 2, 4, 8, 16, 32, 64, -100);
        Check.due("the base image", x.sum(-1), 64);
        for (int i = 0; i < 7; i++) {
            x.setEnabled(i, 0);
        }
        Check.due("none is enabled", x.flatten(6), 0);
        Check.due("the base image stays", x.sum(-1), 64);
    }

    private static void flattenComputesWithoutCache() {
        Check.promise(13, "flatten");
        AdjustmentStack x = new AdjustmentStack();
        Call.makeAll(x, "fillRectangle 0 0 8 8 100, addLayer 12 200 0, setBlend 0 0 50, setMask 0 2 0 0 5 0, "
            + "addLayer 4 0 0, addLayer 8 3 0, setEnabled 2 0, setCacheLimit 1");
        int[] row = {100, 110, 120, 130, 140, 150, 150, 150};
        Check.due("flatten(1)", x.flatten(1), 1);
        for (int column = 0; column < 8; column++) {
            Check.due("pixel(-1, " + column + ", 7)", x.pixel(-1, column, 7), 255 - row[column]);
        }
        for (int what = 0; what <= 2; what++) {
            Check.due("counter(" + what + ")", x.counter(what), 0);
        }
        Check.due("oldestTile()", x.oldestTile(), AdjustmentStack.NONE);
        Check.due("the layer above is not enabled still", x.layer(0, 5), 0);
        Check.due("its output", x.pixel(0, 7, 7), 105);
    }

    private static void flattenAndTiles() {
        Check.promise(13, "flatten");
        for (int layer = 0; layer < 8; layer++) {
            AdjustmentStack x = stackOf(8);
            Check.due("flatten(" + layer + ") of 8", x.flatten(layer), 7 - layer);
            for (int above = 0; above < 7 - layer; above++) {
                Check.due("tiles of layer " + above + " after flatten(" + layer + ")", x.cachedTiles(above), 4);
                Check.due("its pixel", x.pixel(above, 4, 3), (2 << (layer + 1 + above)) - 1);
            }
            Check.due("computed", x.counter(0), 32);
            Check.due("found", x.counter(1), 7 - layer);
            Check.due("dropped", x.counter(2), 0);
            Check.due("clearCache()", x.clearCache(), 4 * (7 - layer));
        }
        AdjustmentStack x = stackOf(8);
        Check.due("the oldest tile", x.oldestTile(), 0);
        x.flatten(5);
        Check.due("the oldest tile is of layer 6, now 0", x.oldestTile(), 0);
        Check.due("room for the tiles that are gone", x.setCacheLimit(8), 0);
        Check.due("no more room", x.setCacheLimit(7), 1);
        Check.due("the next one is of layer 7, now 1", x.oldestTile(), 1000);
    }

    private static void propertiesAtTheirEnds() {
        Check.promise(14, "layer");
        AdjustmentStack x = new AdjustmentStack();
        Call.makeAll(x, "addLayer 1 -255 0, addLayer 2 400 0, addLayer 10 3 300, addLayer 11 -3 -3, setBlend 2 7 0, "
            + "setEnabled 2 0, setMask 2 4 0 0 0 0");
        for (int i = 0; i < 6; i++) {
            Check.due("layer(2, 8)", x.layer(2, 8), i);
            x.dab(2, i, i, i);
        }
        int[][] due = {{1, 745, 1000, 0, 100, 1, 0, 0, 0}, {2, 1400, 1000, 0, 100, 1, 0, 0, 0},
            {10, 1003, 1300, 7, 0, 0, 3, 4, 6}, {11, 997, 997, 0, 100, 1, 3, 0, 0}};
        for (int layer = 0; layer < due.length; layer++) {
            for (int what = 0; what < 9; what++) {
                Check.due("layer(" + layer + ", " + what + ")", x.layer(layer, what), due[layer][what]);
            }
            Check.due("layer(" + layer + ", -1)", x.layer(layer, -1), INVALID);
            Check.due("layer(" + layer + ", 9)", x.layer(layer, 9), INVALID);
        }
        Check.due("layer(4, 0)", x.layer(4, 0), INVALID);
        Check.due("layer(-1, 0)", x.layer(-1, 0), INVALID);
        Check.due("layer(0, 0) of a new object", new AdjustmentStack().layer(0, 0), INVALID);
    }
}
