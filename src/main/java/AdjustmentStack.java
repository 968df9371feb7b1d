/** Photo adjustment layers over a grey image, computed tile by tile; README.md tells how to use it. */
public final class AdjustmentStack {
    public static final int INVALID_ARGUMENT = -1001;
    public static final int ILLEGAL_STATE = -1002;
    public static final int CAPACITY_EXCEEDED = -1003;
    public static final int NONE = -1009;

    private static final int MOST_LAYERS = 8;
    private static final int MOST_DABS = 6;
    private static final int MOST_SAVED_STATES = 6;
    private static final int MOST_CHARACTERS = 160;
    private static final int LONGEST_SIDE = 16;
    private static final int SHORTEST_SIDE = 4;
    private static final int WHITE = 255;

    private static final int LEVELS = 0;
    private static final int BRIGHTNESS = 1;
    private static final int CONTRAST = 2;
    private static final int POSTERIZE = 3;
    private static final int INVERT = 4;
    private static final int THRESHOLD = 5;
    private static final int BLUR = 6;
    private static final int MEDIAN = 7;
    private static final int DILATE = 8;
    private static final int ERODE = 9;
    private static final int SHARPEN = 10;
    private static final int OFFSET = 11;
    private static final int FILL = 12;
    private static final int STRETCH = 13;

    private static final int MASK_NONE = 0;
    private static final int MASK_RECTANGLE = 1;
    private static final int MASK_GRADIENT = 2;
    private static final int MASK_LUMINOSITY = 3;
    private static final int MASK_BRUSH = 4;

    private final Composition stack = new Composition();
    // What-if questions and texts change this copy, so that the stack itself never has to be mended.
    private final Composition draft = new Composition();
    private final History history = new History();
    private final Composition[] snapshots = new Composition[2];
    private final TextReader text = new TextReader();
    private final TileCache cache = new TileCache();
    private final Renderer renderer = new Renderer();
    private final Picture shown = new Picture();
    private final Picture compared = new Picture();

    public AdjustmentStack() {
        stack.base.startAs(8, 8);
    }

    // Base image

    public int newImage(int width, int height) {
        if (!within(width, SHORTEST_SIDE, LONGEST_SIDE) || !within(height, SHORTEST_SIDE, LONGEST_SIDE)) {
            return INVALID_ARGUMENT;
        }
        history.push(stack);
        stack.base.startAs(width, height);
        cache.removeAll();
        return width * height;
    }

    public int setPixel(int x, int y, int value) {
        if (!stack.base.contains(x, y) || !within(value, 0, WHITE)) {
            return INVALID_ARGUMENT;
        }
        return paint(x, y, x, y, value);
    }

    public int fillRectangle(int x, int y, int width, int height, int value) {
        Picture base = stack.base;
        boolean inside = base.contains(x, y)
                && within(width, 1, base.width - x) && within(height, 1, base.height - y);
        if (!inside || !within(value, 0, WHITE)) {
            return INVALID_ARGUMENT;
        }
        return paint(x, y, x + width - 1, y + height - 1, value);
    }

    public int size(int what) {
        switch (what) {
            case 0:
                return stack.base.width;
            case 1:
                return stack.base.height;
            case 2:
                return stack.layerCount();
            case 3:
                return cache.side;
            case 4:
                return tileColumns() * tileRows();
            case 5:
                return cache.limit;
            default:
                return INVALID_ARGUMENT;
        }
    }

    private int paint(int left, int top, int right, int bottom, int value) {
        history.push(stack);
        for (int y = top; y <= bottom; y++) {
            for (int x = left; x <= right; x++) {
                stack.base.put(x, y, value);
            }
        }
        return removeTilesThatSee(left, top, right, bottom);
    }

    private int removeTilesThatSee(int left, int top, int right, int bottom) {
        int reach = 0;
        int removed = 0;
        for (int number = 0; number < stack.layerCount(); number++) {
            Layer layer = stack.layerAt(number);
            if (layer != null && layer.enabled) {
                reach += layer.reach();
                removed += cache.removeTouched(number,
                        Math.max(left - reach, 0), Math.max(top - reach, 0),
                        Math.min(right + reach, stack.base.width - 1),
                        Math.min(bottom + reach, stack.base.height - 1));
            }
        }
        return removed;
    }

    // Layers

    public int addLayer(int kind, int a, int b) {
        if (!Kinds.allow(kind, a, b)) {
            return INVALID_ARGUMENT;
        }
        if (stack.isFull()) {
            return CAPACITY_EXCEEDED;
        }
        history.push(stack);
        stack.addFresh(kind, a, b);
        return stack.layerCount() - 1;
    }

    public int setParameters(int layer, int a, int b) {
        Layer changed = stack.layerAt(layer);
        if (changed == null || !Kinds.allow(changed.kind, a, b)) {
            return INVALID_ARGUMENT;
        }
        int previous = changed.a;
        startChangeOf(layer);
        changed.a = a;
        changed.b = b;
        return previous + 1000;
    }

    public int setBlend(int layer, int mode, int opacity) {
        Layer changed = stack.layerAt(layer);
        if (changed == null || !within(mode, 0, 7) || !within(opacity, 0, 100)) {
            return INVALID_ARGUMENT;
        }
        int previous = changed.opacity;
        startChangeOf(layer);
        changed.mode = mode;
        changed.opacity = opacity;
        return previous;
    }

    public int setEnabled(int layer, int on) {
        Layer changed = stack.layerAt(layer);
        if (changed == null || !within(on, 0, 1)) {
            return INVALID_ARGUMENT;
        }
        boolean enabled = on == 1;
        if (changed.enabled == enabled) {
            return ILLEGAL_STATE;
        }
        startChangeOf(layer);
        changed.enabled = enabled;
        return stack.enabledCount();
    }

    public int moveLayer(int from, int to) {
        Layer moved = stack.layerAt(from);
        if (moved == null || stack.layerAt(to) == null || from == to) {
            return INVALID_ARGUMENT;
        }
        startChangeOf(Math.min(from, to));
        stack.shift(from, to);
        return moved.kind;
    }

    public int duplicateLayer(int layer) {
        if (stack.layerAt(layer) == null) {
            return INVALID_ARGUMENT;
        }
        if (stack.isFull()) {
            return CAPACITY_EXCEEDED;
        }
        startChangeOf(layer + 1);
        stack.addCopyAbove(layer);
        return layer + 1;
    }

    public int removeLayer(int layer) {
        if (stack.layerAt(layer) == null) {
            return INVALID_ARGUMENT;
        }
        startChangeOf(layer);
        stack.takeOut(layer);
        return stack.layerCount();
    }

    public int flatten(int layer) {
        if (stack.layerAt(layer) == null) {
            return INVALID_ARGUMENT;
        }
        history.push(stack);
        renderer.renderStack(stack, layer, shown);
        stack.base.copyFrom(shown);
        for (int number = 0; number <= layer; number++) {
            stack.takeOut(0);
        }
        cache.removeLowest(layer + 1);
        return stack.layerCount();
    }

    public int layer(int layer, int what) {
        Layer asked = stack.layerAt(layer);
        if (asked == null) {
            return INVALID_ARGUMENT;
        }
        switch (what) {
            case 0:
                return asked.kind;
            case 1:
                return asked.a + 1000;
            case 2:
                return asked.b + 1000;
            case 3:
                return asked.mode;
            case 4:
                return asked.opacity;
            case 5:
                return asked.enabled ? 1 : 0;
            case 6:
                return asked.reach();
            case 7:
                return asked.mask.kind;
            case 8:
                return asked.mask.dabCount;
            default:
                return INVALID_ARGUMENT;
        }
    }

    private void startChangeOf(int lowestLayer) {
        history.push(stack);
        cache.removeFrom(lowestLayer);
    }

    // Masks

    public int setMask(int layer, int kind, int c, int d, int e, int f) {
        Layer changed = stack.layerAt(layer);
        if (changed == null || !Mask.allows(kind, c, d, e, f)) {
            return INVALID_ARGUMENT;
        }
        int previous = changed.mask.kind;
        startChangeOf(layer);
        changed.mask.define(kind, c, d, e, f);
        return previous;
    }

    public int setFeather(int layer, int feather) {
        Layer changed = stack.layerAt(layer);
        if (changed == null || !within(feather, 0, 5)) {
            return INVALID_ARGUMENT;
        }
        int previous = changed.mask.feather;
        startChangeOf(layer);
        changed.mask.feather = feather;
        return previous;
    }

    public int invertMask(int layer) {
        Layer changed = stack.layerAt(layer);
        if (changed == null) {
            return INVALID_ARGUMENT;
        }
        startChangeOf(layer);
        changed.mask.inverted = !changed.mask.inverted;
        return changed.mask.inverted ? 1 : 0;
    }

    public int dab(int layer, int x, int y, int radius) {
        Layer changed = stack.layerAt(layer);
        if (changed == null || !within(x, 0, 15) || !within(y, 0, 15) || !within(radius, 0, 8)) {
            return INVALID_ARGUMENT;
        }
        if (changed.mask.dabCount >= MOST_DABS) {
            return CAPACITY_EXCEEDED;
        }
        startChangeOf(layer);
        changed.mask.define(MASK_BRUSH, 0, 0, 0, 0);
        changed.mask.addDab(x, y, radius);
        return changed.mask.dabCount;
    }

    public int maskValue(int layer, int x, int y) {
        Layer asked = stack.layerAt(layer);
        if (asked == null || !stack.base.contains(x, y)) {
            return INVALID_ARGUMENT;
        }
        renderer.renderStack(stack, layer - 1, shown);
        return asked.mask.weightAt(x, y, shown.at(x, y));
    }

    // Text

    public int append(int character) {
        if (!within(character, 1, 255)) {
            return INVALID_ARGUMENT;
        }
        if (text.length >= MOST_CHARACTERS) {
            return CAPACITY_EXCEEDED;
        }
        text.add(character);
        return text.length;
    }

    public int clearText() {
        int previous = text.length;
        text.length = 0;
        return previous;
    }

    public int loadStack() {
        int errorPosition = text.readInto(draft);
        if (errorPosition >= 0) {
            return -10 - errorPosition;
        }
        history.push(stack);
        stack.copyLayersFrom(draft);
        cache.removeAll();
        text.length = 0;
        return stack.layerCount();
    }

    // Outputs by tiles

    public int pixel(int layer, int x, int y) {
        if (!hasOutput(layer) || !stack.base.contains(x, y)) {
            return INVALID_ARGUMENT;
        }
        requestTile(layer, cache.tileOf(x), cache.tileOf(y));
        int value = pictureOf(stack.enabledAtMost(layer)).at(x, y);
        cache.dropSurplus();
        return value;
    }

    public int prefetch(int layer) {
        if (stack.layerAt(layer) == null) {
            return INVALID_ARGUMENT;
        }
        int before = cache.computed;
        for (int row = 0; row < tileRows(); row++) {
            for (int column = 0; column < tileColumns(); column++) {
                requestTile(layer, column, row);
            }
        }
        cache.dropSurplus();
        return cache.computed - before;
    }

    public int setCacheLimit(int limit) {
        if (!within(limit, 1, 64)) {
            return INVALID_ARGUMENT;
        }
        cache.limit = limit;
        return cache.dropSurplus();
    }

    public int setTileSize(int side) {
        if (!within(side, 2, 8)) {
            return INVALID_ARGUMENT;
        }
        cache.side = side;
        return cache.removeAll();
    }

    public int clearCache() {
        return cache.removeAll();
    }

    public int isCached(int layer, int column, int row) {
        if (stack.layerAt(layer) == null
                || !within(column, 0, tileColumns() - 1) || !within(row, 0, tileRows() - 1)) {
            return INVALID_ARGUMENT;
        }
        return cache.holds(layer, column, row) ? 1 : 0;
    }

    public int cachedTiles(int layer) {
        if (stack.layerAt(layer) == null) {
            return INVALID_ARGUMENT;
        }
        return cache.tilesOf(layer);
    }

    public int counter(int what) {
        switch (what) {
            case 0:
                return cache.computed;
            case 1:
                return cache.found;
            case 2:
                return cache.dropped;
            default:
                return INVALID_ARGUMENT;
        }
    }

    public int oldestTile() {
        int slot = cache.oldestSlot();
        if (slot < 0) {
            return NONE;
        }
        return 1000 * TileCache.layerOf(slot) + 10 * TileCache.columnOf(slot) + TileCache.rowOf(slot);
    }

    private int tileColumns() {
        return cache.tileOf(stack.base.width - 1) + 1;
    }

    private int tileRows() {
        return cache.tileOf(stack.base.height - 1) + 1;
    }

    /** Every request of a tile asks only for tiles of lower layers, so it goes at most 8 layers deep. */
    private void requestTile(int number, int column, int row) {
        int source = stack.enabledAtMost(number);
        Layer layer = stack.layerAt(source);
        if (layer == null) {
            return;
        }
        if (cache.holds(source, column, row)) {
            cache.noteFound(source, column, row);
            return;
        }
        requestInput(source - 1, column, row, layer.reach());
        Picture output = cache.outputAt(source);
        if (output == null) {
            return;
        }
        int side = cache.side;
        Picture input = pictureOf(stack.enabledAtMost(source - 1));
        renderer.render(layer, input, output, column * side, row * side, side);
        cache.noteComputed(source, column, row);
    }

    private void requestInput(int number, int column, int row, int reach) {
        if (number < 0) {
            return;
        }
        int side = cache.side;
        int firstColumn = cache.tileOf(Math.max(column * side - reach, 0));
        int lastColumn = cache.tileOf(Math.min((column + 1) * side - 1 + reach, stack.base.width - 1));
        int firstRow = cache.tileOf(Math.max(row * side - reach, 0));
        int lastRow = cache.tileOf(Math.min((row + 1) * side - 1 + reach, stack.base.height - 1));
        for (int r = firstRow; r <= lastRow; r++) {
            for (int c = firstColumn; c <= lastColumn; c++) {
                requestTile(number, c, r);
            }
        }
    }

    private Picture pictureOf(int enabledLayer) {
        Picture cached = cache.outputAt(enabledLayer);
        return cached == null ? stack.base : cached;
    }

    // Whole image

    public int histogram(int layer, int low, int high) {
        if (!hasOutput(layer) || !within(low, 0, WHITE) || !within(high, low, WHITE)) {
            return INVALID_ARGUMENT;
        }
        renderer.renderStack(stack, layer, shown);
        int count = 0;
        for (int y = 0; y < shown.height; y++) {
            for (int x = 0; x < shown.width; x++) {
                if (within(shown.at(x, y), low, high)) {
                    count++;
                }
            }
        }
        return count;
    }

    public int sum(int layer) {
        if (!hasOutput(layer)) {
            return INVALID_ARGUMENT;
        }
        renderer.renderStack(stack, layer, shown);
        int total = 0;
        for (int y = 0; y < shown.height; y++) {
            for (int x = 0; x < shown.width; x++) {
                total += shown.at(x, y);
            }
        }
        return total;
    }

    public int effect(int layer) {
        if (stack.layerAt(layer) == null) {
            return INVALID_ARGUMENT;
        }
        renderer.renderStack(stack, stack.layerCount() - 1, shown);
        return changeWithout(layer);
    }

    public int strongestLayer() {
        renderer.renderStack(stack, stack.layerCount() - 1, shown);
        int strongest = NONE;
        int greatest = -1;
        for (int number = 0; number < stack.layerCount(); number++) {
            int change = changeWithout(number);
            if (change > greatest) {
                greatest = change;
                strongest = number;
            }
        }
        return strongest;
    }

    public int exchangeDifference(int layer) {
        if (!within(layer, 0, stack.layerCount() - 2)) {
            return INVALID_ARGUMENT;
        }
        draft.copyFrom(stack);
        draft.shift(layer, layer + 1);
        return pixelsThatDiffer(draft);
    }

    public int snapshotDifference(int slot) {
        if (slot < 0 || slot >= snapshots.length) {
            return INVALID_ARGUMENT;
        }
        Composition snapshot = snapshots[slot];
        if (snapshot == null || !snapshot.base.hasSizeOf(stack.base)) {
            return ILLEGAL_STATE;
        }
        return pixelsThatDiffer(snapshot);
    }

    private boolean hasOutput(int layer) {
        return layer >= -1 && layer < stack.layerCount();
    }

    /** Expects the output of the top layer in the picture shown, so that it is computed only once. */
    private int changeWithout(int number) {
        draft.copyFrom(stack);
        Layer left = draft.layerAt(number);
        if (left == null) {
            return 0;
        }
        left.enabled = false;
        renderer.renderStack(draft, draft.layerCount() - 1, compared);
        return shown.absoluteDifference(compared);
    }

    private int pixelsThatDiffer(Composition other) {
        renderer.renderStack(stack, stack.layerCount() - 1, shown);
        renderer.renderStack(other, other.layerCount() - 1, compared);
        return shown.differingPixels(compared);
    }

    // Undo and snapshots

    public int undo() {
        if (history.count == 0) {
            return ILLEGAL_STATE;
        }
        history.pop(stack);
        cache.removeAll();
        return history.count;
    }

    public int save(int slot) {
        if (slot < 0 || slot >= snapshots.length) {
            return INVALID_ARGUMENT;
        }
        Composition snapshot = snapshots[slot];
        if (snapshot == null) {
            snapshot = new Composition();
            snapshots[slot] = snapshot;
        }
        snapshot.copyFrom(stack);
        return stack.layerCount();
    }

    public int restore(int slot) {
        if (slot < 0 || slot >= snapshots.length) {
            return INVALID_ARGUMENT;
        }
        Composition snapshot = snapshots[slot];
        if (snapshot == null) {
            return ILLEGAL_STATE;
        }
        stack.copyFrom(snapshot);
        history.count = 0;
        cache.removeAll();
        return stack.layerCount();
    }

    // Numbers

    private static boolean within(int value, int low, int high) {
        return value >= low && value <= high;
    }

    private static int clamped(int value) {
        return Math.max(0, Math.min(value, WHITE));
    }

    /** The document rounds every quotient toward negative infinity, which / does not. */
    private static int divided(int number, int divisor) {
        return divisor > 0 ? Math.floorDiv(number, divisor) : 0;
    }

    /** An image of up to 16 by 16 pixels; its rows are 16 apart, so that it can take any size. */
    private static final class Picture {
        private final int[] values = new int[LONGEST_SIDE * LONGEST_SIDE];
        private int width;
        private int height;

        void startAs(int newWidth, int newHeight) {
            width = newWidth;
            height = newHeight;
            for (int y = 0; y < height; y++) {
                for (int x = 0; x < width; x++) {
                    put(x, y, (17 * x + 29 * y) & 255);
                }
            }
        }

        boolean contains(int x, int y) {
            return x >= 0 && x < width && y >= 0 && y < height;
        }

        int at(int x, int y) {
            int index = y * LONGEST_SIDE + x;
            return index >= 0 && index < values.length ? values[index] : 0;
        }

        int atNearest(int x, int y) {
            return at(Math.max(0, Math.min(x, width - 1)), Math.max(0, Math.min(y, height - 1)));
        }

        void put(int x, int y, int value) {
            int index = y * LONGEST_SIDE + x;
            if (index >= 0 && index < values.length) {
                values[index] = value;
            }
        }

        void copyFrom(Picture source) {
            takeSizeOf(source);
            for (int y = 0; y < height; y++) {
                for (int x = 0; x < width; x++) {
                    put(x, y, source.at(x, y));
                }
            }
        }

        void takeSizeOf(Picture source) {
            width = source.width;
            height = source.height;
        }

        boolean hasSizeOf(Picture other) {
            return width == other.width && height == other.height;
        }

        int absoluteDifference(Picture other) {
            int total = 0;
            for (int y = 0; y < height; y++) {
                for (int x = 0; x < width; x++) {
                    total += Math.abs(at(x, y) - other.at(x, y));
                }
            }
            return total;
        }

        int differingPixels(Picture other) {
            int count = 0;
            for (int y = 0; y < height; y++) {
                for (int x = 0; x < width; x++) {
                    if (at(x, y) != other.at(x, y)) {
                        count++;
                    }
                }
            }
            return count;
        }
    }

    /** What the kinds of layers are called, and which parameters they can have. */
    private static final class Kinds {
        private static final int COUNT = 14;
        private static final int[] PARAMETERS = {2, 1, 1, 1, 0, 1, 1, 1, 1, 1, 2, 2, 1, 0};
        private static final int[] LOWEST_A = {0, -255, 0, 2, 0, 0, 1, 1, 1, 1, 1, -3, 0, 0};
        private static final int[] HIGHEST_A = {254, 255, 400, 16, 0, 256, 3, 2, 3, 3, 3, 3, 255, 0};
        private static final int[] LOWEST_B = {1, 0, 0, 0, 0, 0, 0, 0, 0, 0, 0, -3, 0, 0};
        private static final int[] HIGHEST_B = {255, 0, 0, 0, 0, 0, 0, 0, 0, 0, 300, 3, 0, 0};

        private Kinds() {
        }

        static boolean allow(int kind, int a, int b) {
            return within(kind, 0, COUNT - 1)
                    && within(a, lowestA(kind), highestA(kind))
                    && within(b, lowestB(kind, a), highestB(kind));
        }

        static int parametersOf(int kind) {
            return entry(PARAMETERS, kind);
        }

        static int lowestA(int kind) {
            return entry(LOWEST_A, kind);
        }

        static int highestA(int kind) {
            return entry(HIGHEST_A, kind);
        }

        static int lowestB(int kind, int a) {
            return kind == LEVELS ? a + 1 : entry(LOWEST_B, kind);
        }

        static int highestB(int kind) {
            return entry(HIGHEST_B, kind);
        }

        private static int entry(int[] table, int kind) {
            return kind >= 0 && kind < table.length ? table[kind] : 0;
        }

        static String nameOf(int kind) {
            switch (kind) {
                case LEVELS:
                    return "levels";
                case BRIGHTNESS:
                    return "brightness";
                case CONTRAST:
                    return "contrast";
                case POSTERIZE:
                    return "posterize";
                case INVERT:
                    return "invert";
                case THRESHOLD:
                    return "threshold";
                case BLUR:
                    return "blur";
                case MEDIAN:
                    return "median";
                case DILATE:
                    return "dilate";
                case ERODE:
                    return "erode";
                case SHARPEN:
                    return "sharpen";
                case OFFSET:
                    return "offset";
                case FILL:
                    return "fill";
                case STRETCH:
                    return "stretch";
                default:
                    return "";
            }
        }
    }

    /** How blend modes are called, and what they make of two values. */
    private static final class Modes {
        private static final int COUNT = 8;
        private static final int NORMAL = 0;
        private static final int MULTIPLY = 1;
        private static final int SCREEN = 2;
        private static final int LIGHTEN = 3;
        private static final int DARKEN = 4;
        private static final int DIFFERENCE = 5;
        private static final int ADD = 6;
        private static final int SUBTRACT = 7;

        private Modes() {
        }

        static int blended(int mode, int v, int n) {
            switch (mode) {
                case MULTIPLY:
                    return divided(v * n, WHITE);
                case SCREEN:
                    return WHITE - divided((WHITE - v) * (WHITE - n), WHITE);
                case LIGHTEN:
                    return Math.max(v, n);
                case DARKEN:
                    return Math.min(v, n);
                case DIFFERENCE:
                    return Math.abs(v - n);
                case ADD:
                    return clamped(v + n);
                case SUBTRACT:
                    return clamped(v - n);
                default:
                    return n;
            }
        }

        static String nameOf(int mode) {
            switch (mode) {
                case NORMAL:
                    return "normal";
                case MULTIPLY:
                    return "multiply";
                case SCREEN:
                    return "screen";
                case LIGHTEN:
                    return "lighten";
                case DARKEN:
                    return "darken";
                case DIFFERENCE:
                    return "difference";
                case ADD:
                    return "add";
                case SUBTRACT:
                    return "subtract";
                default:
                    return "";
            }
        }
    }

    /** Where, and how much, a layer works. */
    private static final class Mask {
        private static final int FIELDS_OF_A_DAB = 3;

        private int kind;
        private int c;
        private int d;
        private int e;
        private int f;
        private int feather;
        private boolean inverted;
        private int dabCount;
        private final int[] dabs = new int[FIELDS_OF_A_DAB * MOST_DABS];

        static boolean allows(int kind, int c, int d, int e, int f) {
            switch (kind) {
                case MASK_NONE:
                case MASK_LUMINOSITY:
                case MASK_BRUSH:
                    return c == 0 && d == 0 && e == 0 && f == 0;
                case MASK_RECTANGLE:
                    return within(c, 0, 15) && within(e, c, 15) && within(d, 0, 15) && within(f, d, 15);
                case MASK_GRADIENT:
                    return within(c, 0, 14) && within(e, c + 1, 15) && d == 0 && f == 0;
                default:
                    return false;
            }
        }

        void define(int newKind, int newC, int newD, int newE, int newF) {
            kind = newKind;
            c = newC;
            d = newD;
            e = newE;
            f = newF;
        }

        void startAnew() {
            define(MASK_NONE, 0, 0, 0, 0);
            feather = 0;
            inverted = false;
            dabCount = 0;
        }

        void copyFrom(Mask source) {
            define(source.kind, source.c, source.d, source.e, source.f);
            feather = source.feather;
            inverted = source.inverted;
            dabCount = source.dabCount;
            for (int i = 0; i < dabs.length && i < source.dabs.length; i++) {
                dabs[i] = source.dabs[i];
            }
        }

        void addDab(int x, int y, int radius) {
            int first = FIELDS_OF_A_DAB * dabCount;
            if (first < 0 || first + 2 >= dabs.length) {
                return;
            }
            dabs[first] = x;
            dabs[first + 1] = y;
            dabs[first + 2] = radius;
            dabCount++;
        }

        int weightAt(int x, int y, int input) {
            int weight = WHITE;
            if (kind == MASK_RECTANGLE) {
                weight = rectangleWeightAt(x, y);
            } else if (kind == MASK_GRADIENT) {
                weight = gradientWeightAt(x);
            } else if (kind == MASK_LUMINOSITY) {
                weight = input;
            } else if (kind == MASK_BRUSH) {
                weight = isDabbed(x, y) ? WHITE : 0;
            }
            return inverted ? WHITE - weight : weight;
        }

        private int rectangleWeightAt(int x, int y) {
            int besides = Math.max(c - x, x - e);
            int aboveOrBelow = Math.max(d - y, y - f);
            int distance = Math.max(0, Math.max(besides, aboveOrBelow));
            int steps = feather + 1;
            return steps > 0 && distance < steps ? WHITE * (steps - distance) / steps : 0;
        }

        private int gradientWeightAt(int x) {
            if (x <= c) {
                return 0;
            }
            int span = e - c;
            return x >= e || span <= 0 ? WHITE : WHITE * (x - c) / span;
        }

        private boolean isDabbed(int x, int y) {
            int end = FIELDS_OF_A_DAB * dabCount;
            for (int i = 0; i + 2 < dabs.length && i < end; i += FIELDS_OF_A_DAB) {
                int besides = x - dabs[i];
                int aboveOrBelow = y - dabs[i + 1];
                int radius = dabs[i + 2];
                if (besides * besides + aboveOrBelow * aboveOrBelow <= radius * radius) {
                    return true;
                }
            }
            return false;
        }
    }

    /** One adjustment with its mask. */
    private static final class Layer {
        private int kind;
        private int a;
        private int b;
        private int mode;
        private int opacity;
        private boolean enabled;
        private final Mask mask = new Mask();

        void startAs(int newKind, int newA, int newB) {
            kind = newKind;
            a = newA;
            b = newB;
            mode = Modes.NORMAL;
            opacity = 100;
            enabled = true;
            mask.startAnew();
        }

        void copyFrom(Layer source) {
            kind = source.kind;
            a = source.a;
            b = source.b;
            mode = source.mode;
            opacity = source.opacity;
            enabled = source.enabled;
            mask.copyFrom(source.mask);
        }

        boolean seesNeighbourhood() {
            return within(kind, BLUR, SHARPEN);
        }

        int reach() {
            if (seesNeighbourhood()) {
                return a;
            }
            if (kind == OFFSET) {
                return Math.max(Math.abs(a), Math.abs(b));
            }
            return kind == STRETCH ? LONGEST_SIDE : 0;
        }
    }

    /** The state that undo and snapshots keep: the base image and the layers on it. */
    private static final class Composition {
        private final Picture base = new Picture();
        // The layers in use come first; the others wait to be used again.
        private final Layer[] layers = new Layer[MOST_LAYERS];
        private int count;

        Composition() {
            for (int i = 0; i < layers.length; i++) {
                layers[i] = new Layer();
            }
        }

        int layerCount() {
            return count;
        }

        boolean isFull() {
            return count >= layers.length;
        }

        Layer layerAt(int number) {
            return number >= 0 && number < count && number < layers.length ? layers[number] : null;
        }

        int enabledCount() {
            int enabled = 0;
            for (int i = 0; i < count; i++) {
                Layer layer = layerAt(i);
                if (layer != null && layer.enabled) {
                    enabled++;
                }
            }
            return enabled;
        }

        /** The enabled layer with the greatest number up to this one, or -1. */
        int enabledAtMost(int number) {
            for (int i = number; i >= 0; i--) {
                Layer layer = layerAt(i);
                if (layer != null && layer.enabled) {
                    return i;
                }
            }
            return -1;
        }

        void copyFrom(Composition source) {
            base.copyFrom(source.base);
            copyLayersFrom(source);
        }

        void copyLayersFrom(Composition source) {
            removeLayers();
            for (int i = 0; i < source.count; i++) {
                Layer original = source.layerAt(i);
                Layer copy = nextLayer();
                if (original != null && copy != null) {
                    copy.copyFrom(original);
                }
            }
        }

        void removeLayers() {
            count = 0;
        }

        /** The new top layer, or null if there is no room. */
        Layer addFresh(int kind, int a, int b) {
            Layer added = nextLayer();
            if (added != null) {
                added.startAs(kind, a, b);
            }
            return added;
        }

        void addCopyAbove(int number) {
            Layer original = layerAt(number);
            Layer copy = original == null ? null : nextLayer();
            if (copy != null) {
                copy.copyFrom(original);
                shift(count - 1, number + 1);
            }
        }

        void takeOut(int number) {
            if (layerAt(number) != null) {
                shift(number, count - 1);
                count--;
            }
        }

        void shift(int from, int to) {
            Layer moved = layerAt(from);
            if (moved == null || layerAt(to) == null) {
                return;
            }
            for (int i = from; i < to; i++) {
                layers[i] = layers[i + 1];
            }
            for (int i = from; i > to; i--) {
                layers[i] = layers[i - 1];
            }
            layers[to] = moved;
        }

        private Layer nextLayer() {
            if (isFull()) {
                return null;
            }
            count++;
            return layerAt(count - 1);
        }
    }

    /** The states that undo can bring back, the oldest one first. */
    private static final class History {
        private final Composition[] states = new Composition[MOST_SAVED_STATES];
        private int count;

        History() {
            for (int i = 0; i < states.length; i++) {
                states[i] = new Composition();
            }
        }

        void push(Composition present) {
            if (count >= states.length) {
                discardOldest();
            }
            if (count < 0 || count >= states.length) {
                return;
            }
            Composition saved = states[count];
            if (saved != null) {
                saved.copyFrom(present);
                count++;
            }
        }

        void pop(Composition present) {
            if (count <= 0 || count > states.length) {
                return;
            }
            count--;
            Composition saved = states[count];
            if (saved != null) {
                present.copyFrom(saved);
            }
        }

        private void discardOldest() {
            Composition oldest = states[0];
            for (int i = 0; i + 1 < states.length; i++) {
                states[i] = states[i + 1];
            }
            states[states.length - 1] = oldest;
            count--;
        }
    }

    /** Computes outputs of layers, whole or in part. */
    private static final class Renderer {
        private static final int LARGEST_NEIGHBOURHOOD = 49;

        private final Picture next = new Picture();
        private final int[] neighbours = new int[LARGEST_NEIGHBOURHOOD];
        private int neighbourCount;
        private int lowest;
        private int highest;

        /** Puts the output of a layer into the result, or the base image if the number is -1. */
        void renderStack(Composition stack, int number, Picture result) {
            result.copyFrom(stack.base);
            for (int i = 0; i <= number && i < stack.layerCount(); i++) {
                Layer layer = stack.layerAt(i);
                if (layer != null && layer.enabled) {
                    render(layer, result, next, 0, 0, LONGEST_SIDE);
                    result.copyFrom(next);
                }
            }
        }

        /** Puts a square of the output of a layer into a picture; what lies outside of the image is left out. */
        void render(Layer layer, Picture input, Picture output, int left, int top, int side) {
            output.takeSizeOf(input);
            if (layer.kind == STRETCH) {
                findExtremes(input);
            }
            for (int y = top; y < top + side && y < input.height; y++) {
                for (int x = left; x < left + side && x < input.width; x++) {
                    int v = input.at(x, y);
                    int t = Modes.blended(layer.mode, v, adjusted(layer, input, x, y));
                    int w = layer.mask.weightAt(x, y, v);
                    output.put(x, y, v + divided((t - v) * layer.opacity * w, 25500));
                }
            }
        }

        private int adjusted(Layer layer, Picture input, int x, int y) {
            int v = input.at(x, y);
            int a = layer.a;
            int b = layer.b;
            if (layer.seesNeighbourhood()) {
                gatherNeighbours(input, x, y, a);
            }
            switch (layer.kind) {
                case LEVELS:
                    return v <= a ? 0 : v >= b ? WHITE : divided((v - a) * WHITE, b - a);
                case BRIGHTNESS:
                    return clamped(v + a);
                case CONTRAST:
                    return clamped(128 + divided((v - 128) * a, 100));
                case POSTERIZE:
                    return divided(divided(v * a, 256) * WHITE, a - 1);
                case INVERT:
                    return WHITE - v;
                case THRESHOLD:
                    return v >= a ? WHITE : 0;
                case BLUR:
                    return average();
                case MEDIAN:
                    return median();
                case DILATE:
                    return greatest();
                case ERODE:
                    return smallest();
                case SHARPEN:
                    return clamped(v + divided((v - average()) * b, 100));
                case OFFSET:
                    return input.atNearest(x - a, y - b);
                case FILL:
                    return a;
                case STRETCH:
                    return highest > lowest ? divided((v - lowest) * WHITE, highest - lowest) : v;
                default:
                    return v;
            }
        }

        private void findExtremes(Picture input) {
            lowest = WHITE;
            highest = 0;
            for (int y = 0; y < input.height; y++) {
                for (int x = 0; x < input.width; x++) {
                    int v = input.at(x, y);
                    lowest = Math.min(lowest, v);
                    highest = Math.max(highest, v);
                }
            }
        }

        private void gatherNeighbours(Picture input, int x, int y, int radius) {
            neighbourCount = 0;
            int right = Math.min(x + radius, input.width - 1);
            int bottom = Math.min(y + radius, input.height - 1);
            for (int row = Math.max(0, y - radius); row <= bottom; row++) {
                for (int column = Math.max(0, x - radius); column <= right; column++) {
                    if (neighbourCount < neighbours.length) {
                        neighbours[neighbourCount] = input.at(column, row);
                        neighbourCount++;
                    }
                }
            }
        }

        private int average() {
            int total = 0;
            for (int i = 0; i < neighbourCount && i < neighbours.length; i++) {
                total += neighbours[i];
            }
            return neighbourCount > 0 ? total / neighbourCount : 0;
        }

        private int median() {
            sortNeighbours();
            int middle = (neighbourCount - 1) / 2;
            return middle >= 0 && middle < neighbours.length ? neighbours[middle] : 0;
        }

        private void sortNeighbours() {
            for (int i = 1; i < neighbourCount && i < neighbours.length; i++) {
                int value = neighbours[i];
                int place = i;
                for (; place > 0 && neighbours[place - 1] > value; place--) {
                    neighbours[place] = neighbours[place - 1];
                }
                neighbours[place] = value;
            }
        }

        private int greatest() {
            int value = 0;
            for (int i = 0; i < neighbourCount && i < neighbours.length; i++) {
                value = Math.max(value, neighbours[i]);
            }
            return value;
        }

        private int smallest() {
            int value = WHITE;
            for (int i = 0; i < neighbourCount && i < neighbours.length; i++) {
                value = Math.min(value, neighbours[i]);
            }
            return value;
        }
    }

    /** Which tiles are cached, when they were used, and the pixels in them. */
    private static final class TileCache {
        private static final int MOST_IN_A_ROW = 8;
        private static final int MOST_OF_A_LAYER = MOST_IN_A_ROW * MOST_IN_A_ROW;

        private final Picture[] outputs = new Picture[MOST_LAYERS];
        // The moment of the last use of each tile; 0 if it is not cached.
        private final int[] lastUses = new int[MOST_LAYERS * MOST_OF_A_LAYER];
        private int side = 4;
        private int limit = 16;
        private int held;
        private int moment;
        private int computed;
        private int found;
        private int dropped;

        TileCache() {
            for (int i = 0; i < outputs.length; i++) {
                outputs[i] = new Picture();
            }
        }

        static int layerOf(int slot) {
            return slot / MOST_OF_A_LAYER;
        }

        static int columnOf(int slot) {
            return slot % MOST_IN_A_ROW;
        }

        static int rowOf(int slot) {
            return slot % MOST_OF_A_LAYER / MOST_IN_A_ROW;
        }

        private static int slotOf(int layer, int column, int row) {
            return layer * MOST_OF_A_LAYER + row * MOST_IN_A_ROW + column;
        }

        /** The column or row of the tiles in which a column or row of pixels lies. */
        int tileOf(int coordinate) {
            return divided(coordinate, side);
        }

        Picture outputAt(int layer) {
            return layer >= 0 && layer < outputs.length ? outputs[layer] : null;
        }

        boolean holds(int layer, int column, int row) {
            int slot = slotOf(layer, column, row);
            return slot >= 0 && slot < lastUses.length && lastUses[slot] > 0;
        }

        void noteFound(int layer, int column, int row) {
            found++;
            use(slotOf(layer, column, row));
        }

        void noteComputed(int layer, int column, int row) {
            computed++;
            held++;
            use(slotOf(layer, column, row));
        }

        private void use(int slot) {
            if (slot >= 0 && slot < lastUses.length) {
                moment++;
                lastUses[slot] = moment;
            }
        }

        int tilesOf(int layer) {
            int count = 0;
            int end = (layer + 1) * MOST_OF_A_LAYER;
            for (int slot = Math.max(0, end - MOST_OF_A_LAYER); slot < end && slot < lastUses.length; slot++) {
                if (lastUses[slot] > 0) {
                    count++;
                }
            }
            return count;
        }

        int oldestSlot() {
            int oldest = -1;
            int earliest = moment + 1;
            for (int slot = 0; slot < lastUses.length; slot++) {
                if (lastUses[slot] > 0 && lastUses[slot] < earliest) {
                    earliest = lastUses[slot];
                    oldest = slot;
                }
            }
            return oldest;
        }

        int dropSurplus() {
            int surplus = Math.max(0, held - limit);
            for (int i = 0; i < surplus; i++) {
                remove(oldestSlot());
            }
            dropped += surplus;
            return surplus;
        }

        int removeAll() {
            return removeFrom(0);
        }

        int removeFrom(int layer) {
            return removeSlots(layer * MOST_OF_A_LAYER, lastUses.length);
        }

        int removeTouched(int layer, int left, int top, int right, int bottom) {
            int removed = 0;
            for (int row = tileOf(top); row <= tileOf(bottom); row++) {
                for (int column = tileOf(left); column <= tileOf(right); column++) {
                    removed += remove(slotOf(layer, column, row));
                }
            }
            return removed;
        }

        /** Removes the tiles of the lowest layers; those of the layers above get their new numbers. */
        void removeLowest(int layers) {
            if (layers < 1) {
                return;
            }
            int gap = layers * MOST_OF_A_LAYER;
            removeSlots(0, gap);
            for (int slot = gap; slot < lastUses.length; slot++) {
                lastUses[slot - gap] = lastUses[slot];
                lastUses[slot] = 0;
            }
            for (int i = layers; i < outputs.length; i++) {
                Picture from = outputs[i];
                Picture to = outputs[i - layers];
                if (from != null && to != null) {
                    to.copyFrom(from);
                }
            }
        }

        private int removeSlots(int first, int end) {
            int removed = 0;
            for (int slot = Math.max(0, first); slot < end && slot < lastUses.length; slot++) {
                removed += remove(slot);
            }
            return removed;
        }

        private int remove(int slot) {
            if (slot < 0 || slot >= lastUses.length || lastUses[slot] == 0) {
                return 0;
            }
            lastUses[slot] = 0;
            held--;
            return 1;
        }
    }

    /** Holds the text, and reads it as a stack of layers. */
    private static final class TextReader {
        private static final int END = 0;
        private static final int WORD = 1;
        private static final int NUMBER = 2;
        private static final int MINUS = 3;
        private static final int SEMICOLON = 4;
        private static final int NEVER_ALLOWED = 5;

        private static final int OPACITY = 0;
        private static final int MODE = 1;
        private static final int OFF = 2;
        private static final int OPTIONS = 3;

        private final char[] characters = new char[MOST_CHARACTERS];
        private int length;
        private int token;
        private int start;
        private int end;
        private int number;
        private boolean failed;

        void add(int character) {
            if (length >= 0 && length < characters.length) {
                characters[length] = (char) character;
                length++;
            }
        }

        /** Returns the error position, or -1 if the text is a stack. */
        int readInto(Composition target) {
            target.removeLayers();
            failed = false;
            end = 0;
            nextToken();
            // One more than the layers that are possible, so that the ninth one fails at its first token.
            for (int i = 0; i <= MOST_LAYERS && token != END && !failed; i++) {
                readLayer(target);
            }
            return failed ? start : -1;
        }

        /** After a failure the token that is not allowed stays the present one. */
        private void readLayer(Composition target) {
            int kind = kindOfWord();
            if (kind < 0 || target.isFull()) {
                failed = true;
                return;
            }
            nextToken();
            int count = Kinds.parametersOf(kind);
            int a = count > 0 ? readNumber(Kinds.lowestA(kind), Kinds.highestA(kind)) : 0;
            int b = count > 1 ? readNumber(Kinds.lowestB(kind, a), Kinds.highestB(kind)) : 0;
            Layer layer = failed ? null : target.addFresh(kind, a, b);
            if (layer == null) {
                return;
            }
            readOptions(layer);
            if (failed || token != SEMICOLON) {
                failed = true;
                return;
            }
            nextToken();
        }

        private int readNumber(int low, int high) {
            if (failed) {
                return 0;
            }
            boolean negative = low < 0 && token == MINUS;
            if (negative) {
                nextToken();
            }
            int value = negative ? -number : number;
            if (token != NUMBER || !within(value, low, high)) {
                failed = true;
                return 0;
            }
            nextToken();
            return value;
        }

        private void readOptions(Layer layer) {
            int present = 0;
            for (int i = 0; i < OPTIONS && token == WORD && !failed; i++) {
                int option = optionOfWord();
                if (option < 0 || (present >> option & 1) == 1) {
                    failed = true;
                    return;
                }
                present |= 1 << option;
                nextToken();
                if (option == OFF) {
                    layer.enabled = false;
                } else if (option == OPACITY) {
                    layer.opacity = readNumber(0, 100);
                } else {
                    readMode(layer);
                }
            }
        }

        private void readMode(Layer layer) {
            int mode = modeOfWord();
            if (mode < 0) {
                failed = true;
                return;
            }
            layer.mode = mode;
            nextToken();
        }

        private int kindOfWord() {
            for (int kind = 0; kind < Kinds.COUNT; kind++) {
                if (wordIs(Kinds.nameOf(kind))) {
                    return kind;
                }
            }
            return -1;
        }

        private int modeOfWord() {
            for (int mode = 0; mode < Modes.COUNT; mode++) {
                if (wordIs(Modes.nameOf(mode))) {
                    return mode;
                }
            }
            return -1;
        }

        private int optionOfWord() {
            if (wordIs("opacity")) {
                return OPACITY;
            }
            if (wordIs("mode")) {
                return MODE;
            }
            return wordIs("off") ? OFF : -1;
        }

        private boolean wordIs(String name) {
            if (token != WORD || name.length() != end - start) {
                return false;
            }
            for (int i = 0; i < name.length(); i++) {
                if (name.charAt(i) != characterAt(start + i)) {
                    return false;
                }
            }
            return true;
        }

        private void nextToken() {
            start = endOfRun(end, ' ', ' ');
            char first = characterAt(start);
            if (start >= length) {
                token = END;
                end = start;
            } else if (first >= 'a' && first <= 'z') {
                token = WORD;
                end = endOfRun(start, 'a', 'z');
            } else if (first >= '0' && first <= '9') {
                end = endOfRun(start, '0', '9');
                token = isNumber() ? NUMBER : NEVER_ALLOWED;
                number = token == NUMBER ? valueOfDigits() : 0;
            } else {
                token = first == '-' ? MINUS : first == ';' ? SEMICOLON : NEVER_ALLOWED;
                end = start + 1;
            }
        }

        private boolean isNumber() {
            int digits = end - start;
            return digits == 1 || digits <= 3 && characterAt(start) != '0';
        }

        private int valueOfDigits() {
            int value = 0;
            for (int i = start; i < end; i++) {
                value = 10 * value + characterAt(i) - '0';
            }
            return value;
        }

        private int endOfRun(int from, char low, char high) {
            int index = from;
            while (index < length && characterAt(index) >= low && characterAt(index) <= high) {
                index++;
            }
            return index;
        }

        /** Code 0, which no text holds, stands for the characters behind the end. */
        private char characterAt(int index) {
            return index >= 0 && index < length && index < characters.length ? characters[index] : (char) 0;
        }
    }
}
