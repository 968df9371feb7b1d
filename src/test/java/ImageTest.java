/** Promises 1 to 5: a new object, the base image, and sizes. */
final class ImageTest {
    private static final int INVALID = AdjustmentStack.INVALID_ARGUMENT;

    private ImageTest() {
    }

    public static void main(String[] args) {
        newObject();
        newObjectsShareNothing();
        newImage();
        setPixel();
        removedTilesAfterSetPixel();
        reachesAddUp();
        removedTilesAtTheEdges();
        fillRectangle();
        removedTilesAfterFillRectangle();
        size();
        Check.end();
    }

    private static void newObject() {
        Check.promise(1, "A new object");
        AdjustmentStack x = new AdjustmentStack();
        int[] sizes = {8, 8, 0, 4, 4, 16};
        for (int what = 0; what < sizes.length; what++) {
            Check.due("new size(" + what + ")", x.size(what), sizes[what]);
        }
        for (int what = 0; what < 3; what++) {
            Check.due("new counter(" + what + ")", x.counter(what), 0);
        }
        for (int row = 0; row < 8; row++) {
            for (int column = 0; column < 8; column++) {
                Check.due("new pixel", x.pixel(-1, column, row), (17 * column + 29 * row) % 256);
            }
        }
        Check.due("new oldestTile()", x.oldestTile(), AdjustmentStack.NONE);
        Check.due("new strongestLayer()", x.strongestLayer(), AdjustmentStack.NONE);
        Check.due("new clearCache()", x.clearCache(), 0);
        Check.due("new clearText()", x.clearText(), 0);
        Check.due("new undo()", x.undo(), AdjustmentStack.ILLEGAL_STATE);
        Check.due("new restore(0)", x.restore(0), AdjustmentStack.ILLEGAL_STATE);
        Check.due("new restore(1)", x.restore(1), AdjustmentStack.ILLEGAL_STATE);
    }

    private static void newObjectsShareNothing() {
        Check.promise(1, "A new object");
        AdjustmentStack x = new AdjustmentStack();
        x.addLayer(12, 3, 0);
        x.setPixel(0, 0, 200);
        x.prefetch(0);
        x.save(0);
        x.append('a');
        AdjustmentStack y = new AdjustmentStack();
        Check.due("other size(2)", y.size(2), 0);
        Check.due("other pixel(-1, 0, 0)", y.pixel(-1, 0, 0), 0);
        Check.due("other counter(0)", y.counter(0), 0);
        Check.due("other restore(0)", y.restore(0), AdjustmentStack.ILLEGAL_STATE);
        Check.due("other clearText()", y.clearText(), 0);
    }

    private static void newImage() {
        Check.promise(2, "newImage");
        AdjustmentStack x = new AdjustmentStack();
        x.addLayer(4, 0, 0);
        x.setPixel(1, 1, 0);
        x.prefetch(0);
        Check.due("newImage(3, 4)", x.newImage(3, 4), INVALID);
        Check.due("newImage(4, 3)", x.newImage(4, 3), INVALID);
        Check.due("newImage(17, 4)", x.newImage(17, 4), INVALID);
        Check.due("newImage(4, 17)", x.newImage(4, 17), INVALID);
        Check.due("newImage(min, max)", x.newImage(Integer.MIN_VALUE, Integer.MAX_VALUE), INVALID);
        Check.due("tiles after wrong newImage", x.cachedTiles(0), 4);
        Check.due("newImage(16, 4)", x.newImage(16, 4), 64);
        Check.due("layers stay", x.size(2), 1);
        Check.due("width", x.size(0), 16);
        Check.due("height", x.size(1), 4);
        Check.due("tiles go", x.cachedTiles(0), 0);
        Check.due("this is no dropping", x.counter(2), 0);
        Check.due("pixel(-1, 1, 1)", x.pixel(-1, 1, 1), 46);
        Check.due("pixel(-1, 15, 3)", x.pixel(-1, 15, 3), 86);
        Check.due("pixel(0, 15, 3)", x.pixel(0, 15, 3), 169);
        Check.due("newImage(4, 16)", x.newImage(4, 16), 64);
        Check.due("pixel(-1, 3, 15)", x.pixel(-1, 3, 15), 230);
        Check.due("undo()", x.undo(), 3);
        Check.due("width again", x.size(0), 16);
        Check.due("undo() 2", x.undo(), 2);
        Check.due("pixel(-1, 1, 1) again", x.pixel(-1, 1, 1), 0);
    }

    private static void setPixel() {
        Check.promise(3, "setPixel");
        AdjustmentStack x = new AdjustmentStack();
        Check.due("setPixel(0, 0, 255)", x.setPixel(0, 0, 255), 0);
        Check.due("setPixel(7, 7, 0)", x.setPixel(7, 7, 0), 0);
        Check.due("pixel(-1, 0, 0)", x.pixel(-1, 0, 0), 255);
        Check.due("pixel(-1, 7, 7)", x.pixel(-1, 7, 7), 0);
        Check.due("pixel(-1, 1, 0)", x.pixel(-1, 1, 0), 17);
        Check.due("pixel(-1, 0, 1)", x.pixel(-1, 0, 1), 29);
        int[][] wrong = {{-1, 0, 0}, {8, 0, 0}, {0, -1, 0}, {0, 8, 0}, {0, 0, -1}, {0, 0, 256},
            {Integer.MAX_VALUE, 0, 0}, {0, Integer.MIN_VALUE, 0}};
        for (int[] each : wrong) {
            Check.due("wrong setPixel", x.setPixel(each[0], each[1], each[2]), INVALID);
        }
        Check.due("undo()", x.undo(), 1);
        Check.due("pixel(-1, 7, 7) again", x.pixel(-1, 7, 7), (17 * 7 + 29 * 7) % 256);
        Check.due("undo() 2", x.undo(), 0);
        Check.due("nothing more is saved", x.undo(), AdjustmentStack.ILLEGAL_STATE);
    }

    private static void removedTilesAfterSetPixel() {
        Check.promise(3, "setPixel");
        AdjustmentStack x = new AdjustmentStack();
        x.newImage(16, 16);
        x.setTileSize(2);
        x.setCacheLimit(64);
        x.addLayer(6, 2, 0);
        x.prefetch(0);
        Check.due("reach 2 from (5, 5)", x.setPixel(5, 5, 9), 9);
        Check.due("the tile (1, 1) goes", x.isCached(0, 1, 1), 0);
        Check.due("the tile (3, 3) goes", x.isCached(0, 3, 3), 0);
        Check.due("the tile (0, 1) stays", x.isCached(0, 0, 1), 1);
        Check.due("the tile (4, 1) stays", x.isCached(0, 4, 1), 1);
        Check.due("the same value again", x.setPixel(5, 5, 9), 0);
        x.prefetch(0);
        Check.due("the same value, tiles are cached", x.setPixel(5, 5, 9), 9);
        x.prefetch(0);
        Check.due("reach 2 from (0, 0)", x.setPixel(0, 0, 9), 4);
        Check.due("reach 2 from (15, 15)", x.setPixel(15, 15, 9), 4);
        Check.due("no tile is dropped", x.counter(2), 0);
        x.setEnabled(0, 0);
        x.addLayer(1, 1, 0);
        x.prefetch(1);
        Check.due("a layer that is not enabled has no reach", x.setPixel(5, 5, 9), 1);
    }

    private static void reachesAddUp() {
        Check.promise(3, "setPixel");
        AdjustmentStack x = new AdjustmentStack();
        x.newImage(16, 16);
        x.setTileSize(3);
        x.setCacheLimit(64);
        x.addLayer(6, 1, 0);
        x.addLayer(8, 2, 0);
        x.pixel(1, 3, 7);
        x.pixel(1, 12, 7);
        Check.due("tiles of layer 0", x.cachedTiles(0), 18);
        Check.due("from (8, 7): columns 7 to 9, then 5 to 11", x.setPixel(8, 7, 0), 2 + 1);
        Check.due("the tile (4, 2) of layer 1 stays", x.isCached(1, 4, 2), 1);
        Check.due("the tile (1, 2) of layer 1 goes", x.isCached(1, 1, 2), 0);
        Check.due("no tile is dropped", x.counter(2), 0);
    }

    private static void removedTilesAtTheEdges() {
        Check.promise(3, "setPixel");
        AdjustmentStack x = new AdjustmentStack();
        x.newImage(9, 5);
        x.addLayer(4, 0, 0);
        x.prefetch(0);
        Check.due("the last pixel", x.setPixel(8, 4, 0), 1);
        Check.due("its tile goes", x.isCached(0, 2, 1), 0);
        Check.due("the pixel before it", x.setPixel(7, 3, 0), 1);
        Check.due("the tile of that goes", x.isCached(0, 1, 0), 0);
        x.newImage(16, 16);
        x.setTileSize(2);
        x.setCacheLimit(64);
        x.removeLayer(0);
        x.addLayer(6, 1, 0);
        x.addLayer(4, 0, 0);
        x.pixel(1, 0, 0);
        x.pixel(0, 0, 15);
        Check.due("a lower edge", x.setPixel(0, 15, 0), 1);
        Check.due("the tile above it goes", x.isCached(0, 0, 7), 0);
        Check.due("the first tile of the layer above stays", x.isCached(1, 0, 0), 1);
    }

    private static void fillRectangle() {
        Check.promise(4, "fillRectangle");
        AdjustmentStack x = new AdjustmentStack();
        Check.due("fillRectangle(1, 2, 3, 2, 77)", x.fillRectangle(1, 2, 3, 2, 77), 0);
        for (int row = 0; row < 8; row++) {
            for (int column = 0; column < 8; column++) {
                boolean inside = column >= 1 && column <= 3 && row >= 2 && row <= 3;
                int want = inside ? 77 : (17 * column + 29 * row) % 256;
                Check.due("filled pixel(-1, " + column + ", " + row + ")", x.pixel(-1, column, row), want);
            }
        }
        Check.due("the whole image", x.fillRectangle(0, 0, 8, 8, 255), 0);
        Check.due("sum", x.sum(-1), 64 * 255);
        Check.due("one pixel", x.fillRectangle(7, 7, 1, 1, 0), 0);
        Check.due("sum then", x.sum(-1), 63 * 255);
        int max = Integer.MAX_VALUE;
        int[][] wrong = {{-1, 0, 2, 2, 0}, {0, -1, 2, 2, 0}, {8, 0, 1, 1, 0}, {0, 8, 1, 1, 0}, {0, 0, 0, 1, 0},
            {0, 0, 1, 0, 0}, {0, 0, 9, 1, 0}, {0, 0, 1, 9, 0}, {7, 0, 2, 1, 0}, {0, 7, 1, 2, 0}, {0, 0, 1, 1, -1},
            {0, 0, 1, 1, 256}, {1, 0, max, 1, 0}, {0, 1, 1, max, 0}, {0, 0, -1, 1, 0}, {0, 0, 1, -1, 0}};
        for (int[] each : wrong) {
            Check.due("wrong fillRectangle", x.fillRectangle(each[0], each[1], each[2], each[3], each[4]), INVALID);
        }
        Check.due("undo()", x.undo(), 2);
        Check.due("sum after undo", x.sum(-1), 64 * 255);
    }

    private static void removedTilesAfterFillRectangle() {
        Check.promise(4, "fillRectangle");
        AdjustmentStack x = new AdjustmentStack();
        x.newImage(16, 16);
        x.setCacheLimit(64);
        x.addLayer(4, 0, 0);
        x.addLayer(11, -1, 3);
        x.addLayer(13, 0, 0);
        x.prefetch(2);
        Check.due("16 tiles each", x.cachedTiles(0) + x.cachedTiles(1) + x.cachedTiles(2), 48);
        Check.due("fillRectangle(4, 4, 5, 4, 0)", x.fillRectangle(4, 4, 5, 4, 0), 2 + 9 + 16);
        Check.due("tiles of layer 0", x.cachedTiles(0), 14);
        Check.due("tiles of layer 1", x.cachedTiles(1), 7);
        Check.due("tiles of layer 2", x.cachedTiles(2), 0);
        Check.due("the tile (0, 0) of layer 1", x.isCached(1, 0, 0), 0);
        Check.due("the tile (3, 1) of layer 1", x.isCached(1, 3, 1), 1);
        Check.due("removing is no dropping", x.counter(2), 0);
    }

    private static void size() {
        Check.promise(5, "size");
        AdjustmentStack x = new AdjustmentStack();
        x.newImage(5, 11);
        x.addLayer(4, 0, 0);
        x.setTileSize(3);
        x.setCacheLimit(7);
        int[] sizes = {5, 11, 1, 3, 8, 7};
        for (int what = 0; what < sizes.length; what++) {
            Check.due("size(" + what + ")", x.size(what), sizes[what]);
        }
        x.newImage(16, 9);
        x.setTileSize(8);
        Check.due("size(4), two tiles by two", x.size(4), 4);
        Check.due("size(-1)", x.size(-1), INVALID);
        Check.due("size(6)", x.size(6), INVALID);
        Check.due("size(max)", x.size(Integer.MAX_VALUE), INVALID);
    }
}
