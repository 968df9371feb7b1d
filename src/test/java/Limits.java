import java.util.ArrayList;
import java.util.List;

/** For each promise: the least and the greatest value of each argument while the others stay as they are. */
final class Limits {
    /** One argument of a call, with its least and its greatest value. */
    record Limit(int promise, Call call, int index, int least, int greatest) {
    }

    private static final int WIDTH = 0;
    private static final int HEIGHT = 1;
    private static final int LAYERS = 2;
    private static final int SIDE = 3;

    private final List<Limit> all = new ArrayList<>();
    private final int top;

    private Limits(int top) {
        this.top = top;
    }

    /** The limits in the present state of an object. */
    static List<Limit> in(Object stack) {
        int width = size(stack, WIDTH);
        int height = size(stack, HEIGHT);
        int side = size(stack, SIDE);
        Limits limits = new Limits(size(stack, LAYERS) - 1);
        limits.addImage(width, height);
        limits.addParameters(6, "addLayer");
        limits.addLayers();
        limits.addMasks(width, height);
        limits.addTiles(width, height, side);
        limits.addOutputs();
        limits.addSlots();
        return limits.all;
    }

    /** The parameters of a layer 0 of this kind. */
    static List<Limit> ofParameters(int kind) {
        Limits limits = new Limits(0);
        limits.addParameters(7, "setParameters");
        limits.all.removeIf(limit -> limit.call().argument(0) != kind);
        List<Limit> ofLayer = new ArrayList<>();
        for (Limit limit : limits.all) {
            ofLayer.add(new Limit(7, limit.call().with(0, 0), limit.index(), limit.least(), limit.greatest()));
        }
        return ofLayer;
    }

    private static int size(Object stack, int what) {
        return new Call("size", what).on(stack);
    }

    private void add(int promise, String call, int index, int least, int greatest) {
        all.add(new Limit(promise, Call.of(call), index, least, greatest));
    }

    /** A limit of a call on a layer 0; without layers, only the layer has one, and no value is possible. */
    private void addOfLayer(int promise, String call, int index, int least, int greatest) {
        if (top >= 0 || index == 0) {
            add(promise, call, index, least, greatest);
        }
    }

    private void addImage(int width, int height) {
        add(2, "newImage 8 8", 0, 4, 16);
        add(2, "newImage 8 8", 1, 4, 16);
        add(3, "setPixel 2 2 9", 0, 0, width - 1);
        add(3, "setPixel 2 2 9", 1, 0, height - 1);
        add(3, "setPixel 2 2 9", 2, 0, 255);
        add(4, "fillRectangle 1 1 2 2 9", 0, 0, width - 2);
        add(4, "fillRectangle 1 1 2 2 9", 1, 0, height - 2);
        add(4, "fillRectangle 1 1 2 2 9", 2, 1, width - 1);
        add(4, "fillRectangle 1 1 2 2 9", 3, 1, height - 1);
        add(4, "fillRectangle 1 1 2 2 9", 4, 0, 255);
        add(5, "size 0", 0, 0, 5);
    }

    private void addParameters(int promise, String name) {
        String[] calls = {" 0 100 200", " 1 0 0", " 2 100 0", " 3 5 0", " 4 0 0", " 5 7 0", " 6 1 0", " 7 1 0", " 8 1 0",
            " 9 1 0", " 10 1 5", " 11 0 0", " 12 0 0", " 13 0 0"};
        int[][] ranges = {{0, 199, 101, 255}, {-255, 255, 0, 0}, {0, 400, 0, 0}, {2, 16, 0, 0}, {0, 0, 0, 0},
            {0, 256, 0, 0}, {1, 3, 0, 0}, {1, 2, 0, 0}, {1, 3, 0, 0}, {1, 3, 0, 0}, {1, 3, 0, 300}, {-3, 3, -3, 3},
            {0, 255, 0, 0}, {0, 0, 0, 0}};
        for (int kind = 0; kind < calls.length; kind++) {
            add(promise, name + calls[kind], 1, ranges[kind][0], ranges[kind][1]);
            add(promise, name + calls[kind], 2, ranges[kind][2], ranges[kind][3]);
        }
        add(promise, name + " 0 0 255", 1, 0, 254);
        add(promise, name + " 0 0 255", 2, 1, 255);
        add(promise, name + " 0 254 255", 2, 255, 255);
        add(promise, name + " 11 -3 -3", 1, -3, 3);
        add(promise, name + " 11 3 3", 2, -3, 3);
    }

    private void addLayers() {
        add(6, "addLayer 12 0 0", 0, 11, 13);
        add(6, "addLayer 0 0 1", 0, 0, 0);
        addOfLayer(7, "setParameters 0 1 0", 0, 0, top);
        addOfLayer(8, "setBlend 0 0 50", 0, 0, top);
        addOfLayer(8, "setBlend 0 0 50", 1, 0, 7);
        addOfLayer(8, "setBlend 0 0 50", 2, 0, 100);
        addOfLayer(9, "setEnabled 0 0", 0, 0, top);
        addOfLayer(9, "setEnabled 0 0", 1, 0, 1);
        if (top >= 2) {
            add(10, "moveLayer 1 0", 0, 1, top);
            add(10, "moveLayer 1 2", 0, 0, 1);
            add(10, "moveLayer 0 1", 1, 1, top);
            add(10, "moveLayer 2 1", 1, 0, 1);
        }
        addOfLayer(11, "duplicateLayer 0", 0, 0, top);
        addOfLayer(12, "removeLayer 0", 0, 0, top);
        addOfLayer(13, "flatten 0", 0, 0, top);
        addOfLayer(14, "layer 0 0", 0, 0, top);
        addOfLayer(14, "layer 0 0", 1, 0, 8);
    }

    private void addMasks(int width, int height) {
        addOfLayer(15, "setMask 0 0 0 0 0 0", 0, 0, top);
        addOfLayer(15, "setMask 0 0 0 0 0 0", 1, 0, 1);
        addOfLayer(15, "setMask 0 4 0 0 0 0", 1, 3, 4);
        int[][][] ranges = {{{0, 0}, {0, 0}, {0, 0}, {0, 0}}, {{0, 8}, {0, 9}, {3, 15}, {4, 15}},
            {{0, 8}, {0, 0}, {4, 15}, {0, 0}}, {{0, 0}, {0, 0}, {0, 0}, {0, 0}}, {{0, 0}, {0, 0}, {0, 0}, {0, 0}}};
        String[] calls = {"setMask 0 0 0 0 0 0", "setMask 0 1 3 4 8 9", "setMask 0 2 3 0 9 0", "setMask 0 3 0 0 0 0",
            "setMask 0 4 0 0 0 0"};
        for (int kind = 0; kind < calls.length; kind++) {
            for (int i = 0; i < 4; i++) {
                addOfLayer(15, calls[kind], 2 + i, ranges[kind][i][0], ranges[kind][i][1]);
            }
        }
        addOfLayer(15, "setMask 0 1 15 15 15 15", 2, 0, 15);
        addOfLayer(15, "setMask 0 1 15 15 15 15", 3, 0, 15);
        addOfLayer(15, "setMask 0 2 14 0 15 0", 2, 0, 14);
        addOfLayer(15, "setMask 0 2 14 0 15 0", 4, 15, 15);
        addOfLayer(16, "setFeather 0 0", 0, 0, top);
        addOfLayer(16, "setFeather 0 0", 1, 0, 5);
        addOfLayer(17, "invertMask 0", 0, 0, top);
        for (int index = 0; index < 4; index++) {
            addOfLayer(18, "dab 0 1 1 1", index, 0, new int[] {top, 15, 15, 8}[index]);
        }
        addOfLayer(19, "maskValue 0 1 1", 0, 0, top);
        addOfLayer(19, "maskValue 0 1 1", 1, 0, width - 1);
        addOfLayer(19, "maskValue 0 1 1", 2, 0, height - 1);
        add(20, "append 32", 0, 1, 255);
    }

    private void addTiles(int width, int height, int side) {
        int lastColumn = (width + side - 1) / side - 1;
        int lastRow = (height + side - 1) / side - 1;
        add(23, "pixel -1 1 1", 0, -1, top);
        for (int layer = -1; layer <= top; layer++) {
            add(23, "pixel " + layer + " 1 1", 1, 0, width - 1);
            add(23, "pixel " + layer + " 1 1", 2, 0, height - 1);
        }
        addOfLayer(24, "prefetch 0", 0, 0, top);
        add(25, "setCacheLimit 5", 0, 1, 64);
        add(26, "setTileSize 3", 0, 2, 8);
        addOfLayer(28, "isCached 0 0 0", 0, 0, top);
        addOfLayer(28, "isCached 0 0 0", 1, 0, lastColumn);
        addOfLayer(28, "isCached 0 0 0", 2, 0, lastRow);
        addOfLayer(29, "cachedTiles 0", 0, 0, top);
        add(30, "counter 0", 0, 0, 2);
    }

    private void addOutputs() {
        add(32, "histogram -1 100 200", 0, -1, top);
        add(32, "histogram -1 100 200", 1, 0, 200);
        add(32, "histogram -1 100 200", 2, 100, 255);
        add(32, "histogram -1 255 255", 1, 0, 255);
        add(32, "histogram -1 0 0", 2, 0, 255);
        add(33, "sum -1", 0, -1, top);
        addOfLayer(34, "effect 0", 0, 0, top);
        addOfLayer(36, "exchangeDifference 0", 0, 0, top - 1);
    }

    private void addSlots() {
        add(37, "snapshotDifference 0", 0, 0, 1);
        add(39, "save 0", 0, 0, 1);
        add(40, "restore 0", 0, 0, 1);
    }
}
