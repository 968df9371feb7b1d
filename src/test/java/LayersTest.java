/** Promises 6 to 14: layers, and what their kinds and modes do. */
final class LayersTest {
    private static final int INVALID = AdjustmentStack.INVALID_ARGUMENT;
    private static final int FULL = AdjustmentStack.CAPACITY_EXCEEDED;

    private LayersTest() {
    }

    public static void main(String[] args) {
        addLayer();
        parametersThatArePossible();
        kindsOfOnePixel();
        kindsOfNeighbourhoods();
        kindsOfTheWholeImage();
        modes();
        opacity();
        setParameters();
        setBlend();
        setEnabled();
        moveLayer();
        duplicateLayer();
        removeLayer();
        flatten();
        flattenKeepsTilesAbove();
        flattenTheLowest();
        layer();
        Check.end();
    }

    private static void addLayer() {
        Check.promise(6, "addLayer");
        AdjustmentStack x = new AdjustmentStack();
        for (int i = 0; i < 8; i++) {
            Check.due("addLayer " + i, x.addLayer(i % 2 == 0 ? 4 : 12, i % 2 == 0 ? 0 : i, 0), i);
        }
        Check.due("a ninth layer", x.addLayer(4, 0, 0), FULL);
        Check.due("a wrong ninth layer", x.addLayer(14, 0, 0), INVALID);
        int[] fresh = {12, 1007, 1000, 0, 100, 1, 0, 0, 0};
        for (int what = 0; what < fresh.length; what++) {
            Check.due("layer(7, " + what + ")", x.layer(7, what), fresh[what]);
        }
        Check.due("undo()", x.undo(), 5);
        Check.due("size(2)", x.size(2), 7);
        Check.due("addLayer after undo", x.addLayer(13, 0, 0), 7);
        freshMaskAfterUse();
    }

    private static void freshMaskAfterUse() {
        Check.promise(6, "addLayer");
        AdjustmentStack x = new AdjustmentStack();
        x.addLayer(4, 0, 0);
        x.dab(0, 1, 1, 1);
        x.setFeather(0, 4);
        x.invertMask(0);
        x.setBlend(0, 3, 7);
        x.setEnabled(0, 0);
        x.removeLayer(0);
        Check.due("addLayer in place of one", x.addLayer(1, 5, 0), 0);
        int[] fresh = {1, 1005, 1000, 0, 100, 1, 0, 0, 0};
        for (int what = 0; what < fresh.length; what++) {
            Check.due("fresh layer(0, " + what + ")", x.layer(0, what), fresh[what]);
        }
        Check.due("fresh mask", x.maskValue(0, 1, 1), 255);
        Check.due("fresh feather", x.setFeather(0, 0), 0);
    }

    /** For each kind: the range of a, and that of b with the lowest a. */
    private static void parametersThatArePossible() {
        Check.promise(6, "addLayer");
        int[][] ranges = {{0, 254, 1, 255}, {-255, 255, 0, 0}, {0, 400, 0, 0}, {2, 16, 0, 0}, {0, 0, 0, 0},
            {0, 256, 0, 0}, {1, 3, 0, 0}, {1, 2, 0, 0}, {1, 3, 0, 0}, {1, 3, 0, 0}, {1, 3, 0, 300}, {-3, 3, -3, 3},
            {0, 255, 0, 0}, {0, 0, 0, 0}};
        for (int kind = 0; kind < ranges.length; kind++) {
            int[] range = ranges[kind];
            int highestB = kind == 0 ? 255 : range[2];
            addAndUndo(kind, range[0], range[2], 0);
            addAndUndo(kind, range[0], range[3], 0);
            addAndUndo(kind, range[1], highestB, 0);
            addAndUndo(kind, range[0] - 1, range[2], INVALID);
            addAndUndo(kind, range[1] + 1, highestB, INVALID);
            addAndUndo(kind, range[0], range[2] - 1, INVALID);
            addAndUndo(kind, range[0], range[3] + 1, INVALID);
            addAndUndo(kind, Integer.MIN_VALUE, range[2], INVALID);
            addAndUndo(kind, Integer.MAX_VALUE, range[2], INVALID);
        }
        addAndUndo(0, 100, 100, INVALID);
        addAndUndo(0, 100, 99, INVALID);
        addAndUndo(0, 100, 101, 0);
        addAndUndo(-1, 0, 0, INVALID);
        addAndUndo(14, 0, 0, INVALID);
    }

    private static void addAndUndo(int kind, int a, int b, int want) {
        AdjustmentStack x = new AdjustmentStack();
        Check.due("addLayer(" + kind + ", " + a + ", " + b + ")", x.addLayer(kind, a, b), want);
        Check.due("undo after it", x.undo(), want == 0 ? 0 : AdjustmentStack.ILLEGAL_STATE);
    }

    /** The value that one layer makes of v everywhere; so the neighbourhoods hold only v. */
    private static int made(int v, int kind, int a, int b, int mode, int opacity) {
        AdjustmentStack x = new AdjustmentStack();
        x.fillRectangle(0, 0, 8, 8, v);
        x.addLayer(kind, a, b);
        x.setBlend(0, mode, opacity);
        return x.pixel(0, 3, 3);
    }

    private static void made(int v, int kind, int a, int b, int want) {
        Check.due("kind " + kind + " (" + a + ", " + b + ") of " + v, made(v, kind, a, b, 0, 100), want);
    }

    private static void kindsOfOnePixel() {
        Check.description("Layers");
        made(20, 0, 20, 200, 0);
        made(21, 0, 20, 200, 1);
        made(199, 0, 20, 200, 253);
        made(200, 0, 20, 200, 255);
        made(0, 0, 0, 1, 0);
        made(1, 0, 0, 1, 255);
        made(250, 1, 10, 0, 255);
        made(9, 1, -10, 0, 0);
        made(100, 1, -10, 0, 90);
        made(127, 2, 50, 0, 127);
        made(0, 2, 400, 0, 0);
        made(200, 2, 400, 0, 255);
        made(125, 2, 150, 0, 123);
        made(131, 2, 150, 0, 132);
        made(228, 2, 100, 0, 228);
        made(7, 2, 0, 0, 128);
        made(255, 3, 2, 0, 255);
        made(127, 3, 2, 0, 0);
        made(128, 3, 2, 0, 255);
        made(100, 3, 4, 0, 85);
        made(250, 3, 16, 0, 255);
        made(0, 4, 0, 0, 255);
        made(100, 4, 0, 0, 155);
        made(100, 5, 100, 0, 255);
        made(99, 5, 100, 0, 0);
        made(255, 5, 256, 0, 0);
        made(0, 5, 0, 0, 255);
        made(5, 12, 200, 0, 200);
    }

    private static AdjustmentStack spotted(int kind, int a, int b) {
        AdjustmentStack x = new AdjustmentStack();
        x.fillRectangle(0, 0, 8, 8, 100);
        x.setPixel(3, 3, 200);
        x.setPixel(4, 3, 10);
        x.addLayer(kind, a, b);
        return x;
    }

    private static void at(AdjustmentStack x, String what, int column, int row, int want) {
        Check.due(what + " at (" + column + ", " + row + ")", x.pixel(0, column, row), want);
    }

    private static void kindsOfNeighbourhoods() {
        Check.description("Layers");
        AdjustmentStack blur = spotted(6, 1, 0);
        at(blur, "blur", 3, 3, (7 * 100 + 210) / 9);
        at(blur, "blur", 2, 2, (8 * 100 + 200) / 9);
        at(blur, "blur", 6, 3, 100);
        AdjustmentStack corner = new AdjustmentStack();
        corner.addLayer(6, 3, 0);
        at(corner, "blur over a corner", 0, 0, (4 * 17 * 6 + 4 * 29 * 6) / 16);
        at(corner, "blur over the last corner", 7, 7, 125);
        blur.setPixel(3, 3, 99);
        blur.setPixel(4, 3, 100);
        at(blur, "blur rounds down", 2, 2, 99);
        AdjustmentStack median = spotted(7, 1, 0);
        at(median, "median", 3, 3, 100);
        AdjustmentStack even = new AdjustmentStack();
        even.addLayer(7, 1, 0);
        at(even, "median of 0, 17, 29, 46", 0, 0, 17);
        at(even, "median of 0, 17, 34, 29, 46, 63", 1, 0, 29);
        even.setPixel(0, 0, 200);
        even.setPixel(1, 0, 5);
        at(even, "median of 200, 5, 29, 46", 0, 0, 29);
        AdjustmentStack wide = new AdjustmentStack();
        wide.addLayer(7, 2, 0);
        at(wide, "median of 25", 2, 2, (17 + 29) * 2);
        AdjustmentStack dilate = spotted(8, 2, 0);
        at(dilate, "dilate", 1, 1, 200);
        at(dilate, "dilate", 0, 1, 100);
        at(dilate, "dilate", 5, 5, 200);
        at(dilate, "dilate", 6, 5, 100);
        dilate.fillRectangle(0, 0, 8, 8, 0);
        at(dilate, "dilate of nothing", 5, 5, 0);
        AdjustmentStack erode = spotted(9, 3, 0);
        at(erode, "erode", 1, 0, 10);
        at(erode, "erode", 0, 0, 100);
        at(erode, "erode", 7, 6, 10);
        at(erode, "erode", 7, 7, 100);
        AdjustmentStack sharpen = spotted(10, 1, 100);
        at(sharpen, "sharpen", 3, 3, 255);
        at(sharpen, "sharpen", 4, 3, 0);
        at(sharpen, "sharpen", 2, 2, 100 - 11);
        at(sharpen, "sharpen", 5, 2, 100 + 10);
        AdjustmentStack slight = spotted(10, 1, 3);
        at(slight, "sharpen rounds down", 2, 2, 99);
        AdjustmentStack none = spotted(10, 1, 0);
        at(none, "sharpen by nothing", 3, 3, 200);
        AdjustmentStack offset = spotted(11, 2, -1);
        at(offset, "offset", 5, 2, 200);
        at(offset, "offset", 6, 2, 10);
        AdjustmentStack edges = new AdjustmentStack();
        edges.addLayer(11, 3, -3);
        at(edges, "offset beyond the left and lower edges", 1, 6, (29 * 7) % 256);
        at(edges, "offset beyond no edge", 4, 2, 17 + 29 * 5);
        edges.setParameters(0, -3, 3);
        at(edges, "offset beyond the right and upper edges", 7, 1, 17 * 7);
    }

    private static void kindsOfTheWholeImage() {
        Check.description("Layers");
        AdjustmentStack x = spotted(13, 0, 0);
        at(x, "stretch", 3, 3, 255);
        at(x, "stretch", 4, 3, 0);
        at(x, "stretch", 7, 7, 90 * 255 / 190);
        x.fillRectangle(0, 0, 8, 8, 100);
        x.setPixel(0, 0, 50);
        x.setPixel(7, 0, 150);
        at(x, "stretch with its extremes in the corners", 3, 3, 127);
        x.fillRectangle(0, 0, 8, 8, 77);
        at(x, "stretch of one value", 5, 5, 77);
    }

    private static void mixed(int v, int n, int mode, int want) {
        Check.due("mode " + mode + " of " + v + " and " + n, made(v, 12, n, 0, mode, 100), want);
    }

    private static void modes() {
        Check.description("Layers");
        mixed(100, 30, 0, 30);
        mixed(100, 200, 1, 78);
        mixed(255, 254, 1, 254);
        mixed(100, 200, 2, 255 - 155 * 55 / 255);
        mixed(0, 0, 2, 0);
        mixed(100, 200, 3, 200);
        mixed(100, 30, 3, 100);
        mixed(100, 200, 4, 100);
        mixed(100, 30, 4, 30);
        mixed(100, 200, 5, 100);
        mixed(100, 30, 5, 70);
        mixed(100, 30, 6, 130);
        mixed(100, 200, 6, 255);
        mixed(100, 30, 7, 70);
        mixed(100, 200, 7, 0);
    }

    private static void opacity() {
        Check.description("Layers");
        Check.due("opacity 0", made(100, 12, 200, 0, 0, 0), 100);
        Check.due("opacity 33 upward", made(100, 12, 200, 0, 0, 33), 133);
        Check.due("opacity 50 of 1 upward", made(100, 12, 101, 0, 0, 50), 100);
        Check.due("opacity 50 of 1 downward", made(100, 12, 99, 0, 0, 50), 99);
        Check.due("opacity 1 of 1 downward", made(100, 12, 99, 0, 0, 1), 99);
    }

    private static void setParameters() {
        Check.promise(7, "setParameters");
        AdjustmentStack x = new AdjustmentStack();
        x.addLayer(11, -2, 3);
        x.addLayer(0, 5, 6);
        Check.due("setParameters(0, 1, -1)", x.setParameters(0, 1, -1), 998);
        Check.due("setParameters(0, 3, 3)", x.setParameters(0, 3, 3), 1001);
        Check.due("layer(0, 1)", x.layer(0, 1), 1003);
        Check.due("layer(0, 2)", x.layer(0, 2), 1003);
        Check.due("other layer", x.layer(1, 1), 1005);
        Check.due("setParameters(0, 4, 0)", x.setParameters(0, 4, 0), INVALID);
        Check.due("setParameters(0, 0, -4)", x.setParameters(0, 0, -4), INVALID);
        Check.due("setParameters(1, 9, 9)", x.setParameters(1, 9, 9), INVALID);
        Check.due("setParameters(2, 0, 0)", x.setParameters(2, 0, 0), INVALID);
        Check.due("setParameters(-1, 0, 0)", x.setParameters(-1, 0, 0), INVALID);
        Check.due("setParameters(1, 9, 10)", x.setParameters(1, 9, 10), 1005);
        removesTilesFrom("setParameters", 1, y -> y.setParameters(1, 2, 0));
        Check.due("undo()", x.undo(), 4);
        Check.due("layer(1, 2)", x.layer(1, 2), 1006);
    }

    /** Four layers of brightness 1, of which all 16 tiles are cached. */
    private static AdjustmentStack four() {
        AdjustmentStack x = new AdjustmentStack();
        for (int i = 0; i < 4; i++) {
            x.addLayer(1, 1, 0);
        }
        x.prefetch(3);
        return x;
    }

    private static void removesTilesFrom(String name, int first, java.util.function.ToIntFunction<AdjustmentStack> call) {
        AdjustmentStack x = four();
        Check.holds(name + " succeeds", call.applyAsInt(x) >= 0);
        for (int layer = 0; layer < x.size(2); layer++) {
            Check.due("tiles of layer " + layer + " after " + name, x.cachedTiles(layer), layer < first ? 4 : 0);
        }
        Check.due("dropped tiles after " + name, x.counter(2), 0);
        Check.due("undo after " + name, x.undo(), 4);
        Check.due("layers after undo of " + name, x.size(2), 4);
    }

    private static void setBlend() {
        Check.promise(8, "setBlend");
        AdjustmentStack x = new AdjustmentStack();
        x.addLayer(4, 0, 0);
        Check.due("setBlend(0, 7, 0)", x.setBlend(0, 7, 0), 100);
        Check.due("layer(0, 3)", x.layer(0, 3), 7);
        Check.due("layer(0, 4)", x.layer(0, 4), 0);
        Check.due("setBlend(0, 0, 100)", x.setBlend(0, 0, 100), 0);
        int[][] wrong = {{1, 0, 0}, {-1, 0, 0}, {0, -1, 0}, {0, 8, 0}, {0, 0, -1}, {0, 0, 101}};
        for (int[] each : wrong) {
            Check.due("wrong setBlend", x.setBlend(each[0], each[1], each[2]), INVALID);
        }
        Check.due("layer(0, 3) stays", x.layer(0, 3), 0);
        Check.due("layer(0, 4) stays", x.layer(0, 4), 100);
        removesTilesFrom("setBlend", 2, y -> y.setBlend(2, 0, 100));
    }

    private static void setEnabled() {
        Check.promise(9, "setEnabled");
        AdjustmentStack x = four();
        Check.due("setEnabled(1, 1)", x.setEnabled(1, 1), AdjustmentStack.ILLEGAL_STATE);
        Check.due("tiles stay", x.cachedTiles(1), 4);
        Check.due("setEnabled(1, 2)", x.setEnabled(1, 2), INVALID);
        Check.due("setEnabled(1, -1)", x.setEnabled(1, -1), INVALID);
        Check.due("setEnabled(4, 1)", x.setEnabled(4, 1), INVALID);
        Check.due("setEnabled(-1, 0)", x.setEnabled(-1, 0), INVALID);
        Check.due("setEnabled(1, 0)", x.setEnabled(1, 0), 3);
        Check.due("setEnabled(1, 0) again", x.setEnabled(1, 0), AdjustmentStack.ILLEGAL_STATE);
        Check.due("layer(1, 5)", x.layer(1, 5), 0);
        Check.due("setEnabled(0, 0)", x.setEnabled(0, 0), 2);
        Check.due("its output is its input", x.pixel(1, 1, 0), 17);
        Check.due("nothing was requested", x.counter(0), 16);
        Check.due("setEnabled(1, 1)", x.setEnabled(1, 1), 3);
        Check.due("pixel(1, 1, 0)", x.pixel(1, 1, 0), 18);
        removesTilesFrom("setEnabled", 1, y -> y.setEnabled(1, 0));
    }

    private static void moveLayer() {
        Check.promise(10, "moveLayer");
        AdjustmentStack x = new AdjustmentStack();
        for (int i = 0; i < 5; i++) {
            x.addLayer(1, i, 0);
        }
        x.addLayer(4, 0, 0);
        Check.due("moveLayer(1, 3)", x.moveLayer(1, 3), 1);
        int[] upward = {1000, 1002, 1003, 1001, 1004, 1000};
        for (int i = 0; i < 6; i++) {
            Check.due("layer(" + i + ", 1) after moving up", x.layer(i, 1), upward[i]);
        }
        Check.due("moveLayer(5, 0)", x.moveLayer(5, 0), 4);
        int[] downward = {1000, 1000, 1002, 1003, 1001, 1004};
        for (int i = 0; i < 6; i++) {
            Check.due("layer(" + i + ", 1) after moving down", x.layer(i, 1), downward[i]);
        }
        Check.due("layer(0, 0)", x.layer(0, 0), 4);
        Check.due("moveLayer(2, 2)", x.moveLayer(2, 2), INVALID);
        Check.due("moveLayer(6, 0)", x.moveLayer(6, 0), INVALID);
        Check.due("moveLayer(0, 6)", x.moveLayer(0, 6), INVALID);
        Check.due("moveLayer(-1, 0)", x.moveLayer(-1, 0), INVALID);
        Check.due("moveLayer(0, -1)", x.moveLayer(0, -1), INVALID);
        removesTilesFrom("moveLayer up", 1, y -> y.moveLayer(1, 3));
        removesTilesFrom("moveLayer down", 1, y -> y.moveLayer(2, 1));
    }

    private static void duplicateLayer() {
        Check.promise(11, "duplicateLayer");
        AdjustmentStack x = new AdjustmentStack();
        x.addLayer(2, 150, 0);
        x.addLayer(4, 0, 0);
        x.setBlend(0, 5, 60);
        x.dab(0, 2, 2, 1);
        x.invertMask(0);
        x.setFeather(0, 3);
        x.setEnabled(0, 0);
        Check.due("duplicateLayer(0)", x.duplicateLayer(0), 1);
        int[] copy = {2, 1150, 1000, 5, 60, 0, 0, 4, 1};
        for (int what = 0; what < copy.length; what++) {
            Check.due("layer(1, " + what + ")", x.layer(1, what), copy[what]);
        }
        Check.due("layer(2, 0)", x.layer(2, 0), 4);
        Check.due("maskValue(1, 2, 2)", x.maskValue(1, 2, 2), 0);
        Check.due("maskValue(1, 5, 5)", x.maskValue(1, 5, 5), 255);
        Check.due("dab of the copy", x.dab(1, 0, 0, 0), 2);
        Check.due("the original keeps its dabs", x.layer(0, 8), 1);
        Check.due("feather of the copy", x.setFeather(1, 0), 3);
        Check.due("feather of the original", x.setFeather(0, 0), 3);
        Check.due("duplicateLayer(3)", x.duplicateLayer(3), INVALID);
        Check.due("duplicateLayer(-1)", x.duplicateLayer(-1), INVALID);
        for (int i = 3; i < 8; i++) {
            Check.due("duplicateLayer(" + (i - 1) + ")", x.duplicateLayer(i - 1), i);
        }
        Check.due("duplicateLayer(7)", x.duplicateLayer(7), FULL);
        Check.due("duplicateLayer(8)", x.duplicateLayer(8), INVALID);
        removesTilesFrom("duplicateLayer", 2, y -> y.duplicateLayer(1));
        removesTilesFrom("duplicateLayer of the top", 4, y -> y.duplicateLayer(3));
    }

    private static void removeLayer() {
        Check.promise(12, "removeLayer");
        AdjustmentStack x = new AdjustmentStack();
        for (int i = 0; i < 4; i++) {
            x.addLayer(1, 10 * i, 0);
        }
        Check.due("removeLayer(4)", x.removeLayer(4), INVALID);
        Check.due("removeLayer(-1)", x.removeLayer(-1), INVALID);
        Check.due("removeLayer(1)", x.removeLayer(1), 3);
        Check.due("layer(0, 1)", x.layer(0, 1), 1000);
        Check.due("layer(1, 1)", x.layer(1, 1), 1020);
        Check.due("layer(2, 1)", x.layer(2, 1), 1030);
        Check.due("layer(3, 1)", x.layer(3, 1), INVALID);
        Check.due("removeLayer(2)", x.removeLayer(2), 2);
        Check.due("removeLayer(0)", x.removeLayer(0), 1);
        Check.due("removeLayer(0) again", x.removeLayer(0), 0);
        Check.due("removeLayer(0) of none", x.removeLayer(0), INVALID);
        Check.due("undo()", x.undo(), 5);
        Check.due("layer(0, 1) again", x.layer(0, 1), 1020);
        removesTilesFrom("removeLayer", 2, y -> y.removeLayer(2));
    }

    private static void flatten() {
        Check.promise(13, "flatten");
        AdjustmentStack x = new AdjustmentStack();
        x.addLayer(1, 10, 0);
        x.addLayer(4, 0, 0);
        x.addLayer(1, 7, 0);
        Check.due("flatten(3)", x.flatten(3), INVALID);
        Check.due("flatten(-1)", x.flatten(-1), INVALID);
        Check.due("flatten(1)", x.flatten(1), 1);
        Check.due("pixel(-1, 1, 0)", x.pixel(-1, 1, 0), 255 - 27);
        Check.due("pixel(0, 1, 0)", x.pixel(0, 1, 0), 255 - 20);
        Check.due("layer(0, 1)", x.layer(0, 1), 1007);
        Check.due("counter(0)", x.counter(0), 1);
        x.setEnabled(0, 0);
        Check.due("flatten(0) of a layer that is not enabled", x.flatten(0), 0);
        Check.due("pixel(-1, 1, 0) stays", x.pixel(-1, 1, 0), 255 - 27);
        Check.due("undo()", x.undo(), 5);
        Check.due("undo() 2", x.undo(), 4);
        Check.due("undo() 3", x.undo(), 3);
        Check.due("size(2)", x.size(2), 3);
        Check.due("base image", x.pixel(-1, 1, 0), 17);
    }

    private static void flattenKeepsTilesAbove() {
        Check.promise(13, "flatten");
        AdjustmentStack x = four();
        x.clearCache();
        x.pixel(3, 5, 1);
        x.pixel(2, 1, 5);
        x.pixel(0, 7, 7);
        int computed = x.counter(0);
        Check.due("flatten(1)", x.flatten(1), 2);
        Check.due("tiles of the layer 2, now 0", x.cachedTiles(0), 2);
        Check.due("tiles of the layer 3, now 1", x.cachedTiles(1), 1);
        Check.due("isCached(0, 0, 1)", x.isCached(0, 0, 1), 1);
        Check.due("isCached(1, 1, 0)", x.isCached(1, 1, 0), 1);
        Check.due("oldestTile()", x.oldestTile(), 10);
        Check.due("pixel(1, 5, 1)", x.pixel(1, 5, 1), 17 * 5 + 29 + 4);
        Check.due("pixel(0, 2, 6)", x.pixel(0, 2, 6), 17 * 2 + 29 * 6 + 3);
        Check.due("found", x.counter(0), computed);
        Check.due("dropped", x.counter(2), 0);
        Check.due("prefetch(1)", x.prefetch(1), 3 + 2);
        Check.due("pixel(1, 7, 0)", x.pixel(1, 7, 0), 17 * 7 + 4);
        Check.due("clearCache()", x.clearCache(), 8);
    }

    private static void flattenTheLowest() {
        Check.promise(13, "flatten");
        AdjustmentStack x = four();
        Check.due("flatten(0)", x.flatten(0), 3);
        Check.due("oldestTile() of the layer 1, now 0", x.oldestTile(), 0);
        for (int layer = 0; layer < 3; layer++) {
            Check.due("tiles of layer " + layer, x.cachedTiles(layer), 4);
        }
        Check.due("addLayer", x.addLayer(4, 0, 0), 3);
        Check.due("a new layer has no tiles", x.cachedTiles(3), 0);
        Check.due("prefetch(3)", x.prefetch(3), 4);
        Check.due("there was room for 16 tiles", x.counter(2), 0);
        Check.due("pixel(3, 1, 0)", x.pixel(3, 1, 0), 255 - 21);
        Check.due("pixel(2, 1, 0)", x.pixel(2, 1, 0), 21);
        Check.due("flatten(3)", x.flatten(3), 0);
        Check.due("no tiles are left", x.clearCache(), 0);
    }

    private static void layer() {
        Check.promise(14, "layer");
        AdjustmentStack x = new AdjustmentStack();
        int[][] reaches = {{0, 1, 2, 0}, {1, 9, 0, 0}, {2, 9, 0, 0}, {3, 9, 0, 0}, {4, 0, 0, 0}, {5, 9, 0, 0},
            {6, 3, 0, 3}, {7, 2, 0, 2}, {8, 1, 0, 1}, {9, 2, 0, 2}, {10, 3, 200, 3}, {11, -3, 2, 3}, {11, 1, -2, 2},
            {11, 0, 0, 0}, {12, 9, 0, 0}, {13, 0, 0, 16}};
        for (int[] each : reaches) {
            Check.due("addLayer", x.addLayer(each[0], each[1], each[2]), 0);
            Check.due("kind", x.layer(0, 0), each[0]);
            Check.due("a", x.layer(0, 1), each[1] + 1000);
            Check.due("b", x.layer(0, 2), each[2] + 1000);
            Check.due("reach of kind " + each[0], x.layer(0, 6), each[3]);
            x.removeLayer(0);
        }
        x.addLayer(6, 2, 0);
        x.setEnabled(0, 0);
        Check.due("reach of a layer that is not enabled", x.layer(0, 6), 2);
        x.setMask(0, 2, 3, 0, 4, 0);
        Check.due("kind of the mask", x.layer(0, 7), 2);
        Check.due("layer(0, -1)", x.layer(0, -1), INVALID);
        Check.due("layer(0, 9)", x.layer(0, 9), INVALID);
        Check.due("layer(1, 0)", x.layer(1, 0), INVALID);
        Check.due("layer(-1, 0)", x.layer(-1, 0), INVALID);
    }
}
