/** Promises 23 to 31: outputs by tiles, and the cache. */
final class TilesTest {
    private static final int INVALID = AdjustmentStack.INVALID_ARGUMENT;

    private TilesTest() {
    }

    public static void main(String[] args) {
        pixel();
        pixelOfLayersThatAreNotEnabled();
        requestsOfReach();
        orderOfUse();
        prefetch();
        prefetchOverTheLimit();
        setCacheLimit();
        setTileSize();
        clearCache();
        isCached();
        cachedTiles();
        counter();
        oldestTile();
        Check.end();
    }

    private static void counters(String when, AdjustmentStack x, int computed, int found, int dropped) {
        Check.due("computed " + when, x.counter(0), computed);
        Check.due("found " + when, x.counter(1), found);
        Check.due("dropped " + when, x.counter(2), dropped);
    }

    private static void pixel() {
        Check.promise(23, "pixel");
        AdjustmentStack x = new AdjustmentStack();
        Check.due("pixel(-1, 7, 7)", x.pixel(-1, 7, 7), (17 * 7 + 29 * 7) % 256);
        Check.due("pixel(0, 0, 0) without layers", x.pixel(0, 0, 0), INVALID);
        x.addLayer(4, 0, 0);
        x.addLayer(1, 10, 0);
        int[][] wrong = {{-2, 0, 0}, {2, 0, 0}, {0, -1, 0}, {0, 8, 0}, {0, 0, -1}, {0, 0, 8}, {-1, 8, 0}, {-1, 0, -1},
            {Integer.MIN_VALUE, 0, 0}, {Integer.MAX_VALUE, 0, 0}};
        for (int[] each : wrong) {
            Check.due("wrong pixel", x.pixel(each[0], each[1], each[2]), INVALID);
        }
        counters("before", x, 0, 0, 0);
        Check.due("pixel(-1, 1, 1)", x.pixel(-1, 1, 1), 46);
        counters("after the base image", x, 0, 0, 0);
        Check.due("pixel(1, 1, 1)", x.pixel(1, 1, 1), 219);
        counters("after one tile", x, 2, 0, 0);
        Check.due("pixel(1, 3, 3)", x.pixel(1, 3, 3), 255 - 138 + 10);
        counters("after the same tile", x, 2, 1, 0);
        Check.due("pixel(0, 0, 3)", x.pixel(0, 0, 3), 255 - 87);
        counters("after the tile below", x, 2, 2, 0);
        Check.due("pixel(1, 4, 3)", x.pixel(1, 4, 3), 255 - 155 + 10);
        counters("after another tile", x, 4, 2, 0);
        Check.due("isCached(1, 1, 0)", x.isCached(1, 1, 0), 1);
        Check.due("isCached(1, 0, 1)", x.isCached(1, 0, 1), 0);
    }

    private static void pixelOfLayersThatAreNotEnabled() {
        Check.promise(23, "pixel");
        AdjustmentStack x = new AdjustmentStack();
        x.addLayer(4, 0, 0);
        x.addLayer(6, 3, 0);
        x.addLayer(1, 10, 0);
        x.setEnabled(0, 0);
        x.setEnabled(1, 0);
        Check.due("pixel(1, 2, 0)", x.pixel(1, 2, 0), 34);
        counters("after nothing was requested", x, 0, 0, 0);
        Check.due("pixel(2, 2, 0)", x.pixel(2, 2, 0), 44);
        counters("after the top", x, 1, 0, 0);
        x.setEnabled(0, 1);
        Check.due("pixel(1, 2, 0) then", x.pixel(1, 2, 0), 221);
        counters("after the lowest", x, 2, 0, 0);
        Check.due("isCached(1, 0, 0)", x.isCached(1, 0, 0), 0);
        Check.due("isCached(0, 0, 0)", x.isCached(0, 0, 0), 1);
        Check.due("pixel(2, 5, 5)", x.pixel(2, 5, 5), 255 - 230 + 10);
        counters("after the top, over the lowest", x, 4, 0, 0);
    }

    private static int requestedByOneTile(int kind, int a, int b, int column, int row) {
        AdjustmentStack x = new AdjustmentStack();
        x.newImage(16, 16);
        x.setTileSize(2);
        x.setCacheLimit(64);
        x.addLayer(4, 0, 0);
        x.addLayer(kind, a, b);
        x.pixel(1, column * 2, row * 2 + 1);
        return x.cachedTiles(0);
    }

    private static void requestsOfReach() {
        Check.promise(23, "pixel");
        Check.due("reach 0", requestedByOneTile(1, 3, 0, 3, 3), 1);
        Check.due("reach 1", requestedByOneTile(6, 1, 0, 3, 3), 9);
        Check.due("reach 2", requestedByOneTile(7, 2, 0, 3, 3), 9);
        Check.due("reach 3", requestedByOneTile(8, 3, 0, 3, 3), 25);
        Check.due("reach 3 of offset", requestedByOneTile(11, 0, -3, 3, 3), 25);
        Check.due("reach 0 of offset", requestedByOneTile(11, 0, 0, 3, 3), 1);
        Check.due("reach 3 in the corner", requestedByOneTile(9, 3, 0, 0, 0), 9);
        Check.due("reach 1 in the last corner", requestedByOneTile(10, 1, 9, 7, 7), 4);
        Check.due("reach 2 at the edge", requestedByOneTile(6, 2, 0, 7, 3), 6);
        AdjustmentStack x = new AdjustmentStack();
        x.newImage(16, 16);
        x.setTileSize(2);
        x.setCacheLimit(64);
        x.addLayer(4, 0, 0);
        x.addLayer(13, 0, 0);
        x.pixel(1, 0, 0);
        counters("after stretch of 64 tiles", x, 65, 0, 1);
        Check.due("the first tile is dropped", x.isCached(0, 0, 0), 0);
        Check.due("the second one stays", x.isCached(0, 1, 0), 1);
        Check.due("the one of stretch stays", x.isCached(1, 0, 0), 1);
    }

    private static void orderOfUse() {
        Check.promise(23, "pixel");
        AdjustmentStack x = new AdjustmentStack();
        x.addLayer(4, 0, 0);
        x.addLayer(6, 1, 0);
        x.pixel(1, 0, 0);
        int[] order = {0, 10, 1, 11, 1000};
        for (int tile : order) {
            Check.due("oldestTile()", x.oldestTile(), tile);
            x.pixel(tile / 1000, tile / 10 % 100 * 4, tile % 10 * 4);
        }
        Check.due("oldestTile() after all were found", x.oldestTile(), 0);
        counters("then", x, 5, 5, 0);
        Check.due("setCacheLimit(1)", x.setCacheLimit(1), 4);
        Check.due("the last one stays", x.oldestTile(), 1000);
    }

    private static void prefetch() {
        Check.promise(24, "prefetch");
        AdjustmentStack x = new AdjustmentStack();
        x.newImage(9, 5);
        x.addLayer(4, 0, 0);
        x.addLayer(6, 1, 0);
        Check.due("prefetch(2)", x.prefetch(2), INVALID);
        Check.due("prefetch(-1)", x.prefetch(-1), INVALID);
        Check.due("prefetch(1)", x.prefetch(1), 12);
        counters("after prefetch(1)", x, 12, 4 + 6 + 4 + 4 + 6 + 4 - 6, 0);
        Check.due("oldestTile()", x.oldestTile(), 1000);
        Check.due("prefetch(1) again", x.prefetch(1), 0);
        counters("after prefetch(1) again", x, 12, 28, 0);
        Check.due("oldestTile() then", x.oldestTile(), 0);
        Check.due("prefetch(0)", x.prefetch(0), 0);
        Check.due("oldestTile() after prefetch(0)", x.oldestTile(), 1000);
        x.setEnabled(1, 0);
        Check.due("prefetch(1) of a layer that is not enabled", x.prefetch(1), 0);
        counters("after it", x, 12, 40, 0);
        x.setEnabled(0, 0);
        Check.due("prefetch(1) of the base image", x.prefetch(1), 0);
        counters("after the base image", x, 12, 40, 0);
    }

    private static void prefetchOverTheLimit() {
        Check.promise(24, "prefetch");
        AdjustmentStack x = new AdjustmentStack();
        x.newImage(16, 16);
        x.setTileSize(2);
        x.setCacheLimit(3);
        for (int i = 0; i < 8; i++) {
            x.addLayer(1, 1, 0);
        }
        Check.due("prefetch(7)", x.prefetch(7), 512);
        counters("after it", x, 512, 0, 509);
        Check.due("cachedTiles(7)", x.cachedTiles(7), 1);
        Check.due("cachedTiles(6)", x.cachedTiles(6), 1);
        Check.due("cachedTiles(5)", x.cachedTiles(5), 1);
        Check.due("oldestTile()", x.oldestTile(), 5077);
        Check.due("pixel(7, 0, 0)", x.pixel(7, 0, 0), 8);
        counters("after another tile", x, 520, 0, 517);
        Check.due("oldestTile() then", x.oldestTile(), 5000);
    }

    private static void setCacheLimit() {
        Check.promise(25, "setCacheLimit");
        AdjustmentStack x = new AdjustmentStack();
        x.addLayer(4, 0, 0);
        x.prefetch(0);
        Check.due("setCacheLimit(0)", x.setCacheLimit(0), INVALID);
        Check.due("setCacheLimit(65)", x.setCacheLimit(65), INVALID);
        Check.due("setCacheLimit(-1)", x.setCacheLimit(-1), INVALID);
        Check.due("size(5)", x.size(5), 16);
        Check.due("setCacheLimit(4)", x.setCacheLimit(4), 0);
        Check.due("setCacheLimit(3)", x.setCacheLimit(3), 1);
        Check.due("size(5) then", x.size(5), 3);
        Check.due("isCached(0, 0, 0)", x.isCached(0, 0, 0), 0);
        x.pixel(0, 5, 0);
        Check.due("setCacheLimit(1)", x.setCacheLimit(1), 2);
        Check.due("the tile used last stays", x.isCached(0, 1, 0), 1);
        counters("then", x, 4, 1, 3);
        Check.due("setCacheLimit(64)", x.setCacheLimit(64), 0);
        Check.due("size(5) at last", x.size(5), 64);
        x.undo();
        Check.due("undo() leaves the limit", x.size(5), 64);
    }

    private static void setTileSize() {
        Check.promise(26, "setTileSize");
        AdjustmentStack x = new AdjustmentStack();
        x.addLayer(4, 0, 0);
        x.prefetch(0);
        Check.due("setTileSize(1)", x.setTileSize(1), INVALID);
        Check.due("setTileSize(9)", x.setTileSize(9), INVALID);
        Check.due("setTileSize(4)", x.setTileSize(4), 4);
        Check.due("setTileSize(8)", x.setTileSize(8), 0);
        Check.due("size(3)", x.size(3), 8);
        Check.due("prefetch(0)", x.prefetch(0), 1);
        Check.due("setTileSize(2)", x.setTileSize(2), 1);
        Check.due("prefetch(0) of 2 by 2", x.prefetch(0), 16);
        counters("then", x, 21, 0, 0);
        x.undo();
        Check.due("undo() leaves the side", x.size(3), 2);
    }

    private static void clearCache() {
        Check.promise(27, "clearCache");
        AdjustmentStack x = new AdjustmentStack();
        x.addLayer(4, 0, 0);
        x.addLayer(4, 0, 0);
        x.prefetch(1);
        Check.due("clearCache()", x.clearCache(), 8);
        Check.due("clearCache() again", x.clearCache(), 0);
        Check.due("cachedTiles(0)", x.cachedTiles(0), 0);
        Check.due("cachedTiles(1)", x.cachedTiles(1), 0);
        counters("then", x, 8, 0, 0);
        Check.due("undo()", x.undo(), 1);
    }

    private static void isCached() {
        Check.promise(28, "isCached");
        AdjustmentStack x = new AdjustmentStack();
        x.newImage(9, 5);
        x.addLayer(4, 0, 0);
        x.pixel(0, 8, 4);
        Check.due("isCached(0, 2, 1)", x.isCached(0, 2, 1), 1);
        Check.due("isCached(0, 1, 1)", x.isCached(0, 1, 1), 0);
        Check.due("isCached(0, 2, 0)", x.isCached(0, 2, 0), 0);
        int[][] wrong = {{1, 0, 0}, {-1, 0, 0}, {0, 3, 0}, {0, -1, 0}, {0, 0, 2}, {0, 0, -1}};
        for (int[] each : wrong) {
            Check.due("wrong isCached", x.isCached(each[0], each[1], each[2]), INVALID);
        }
        counters("then", x, 1, 0, 0);
    }

    private static void cachedTiles() {
        Check.promise(29, "cachedTiles");
        AdjustmentStack x = new AdjustmentStack();
        Check.due("cachedTiles(0) without layers", x.cachedTiles(0), INVALID);
        x.addLayer(4, 0, 0);
        x.addLayer(4, 0, 0);
        Check.due("cachedTiles(-1)", x.cachedTiles(-1), INVALID);
        Check.due("cachedTiles(2)", x.cachedTiles(2), INVALID);
        x.pixel(1, 0, 0);
        x.pixel(0, 4, 4);
        Check.due("cachedTiles(0)", x.cachedTiles(0), 2);
        Check.due("cachedTiles(1)", x.cachedTiles(1), 1);
        Check.due("addLayer", x.addLayer(4, 0, 0), 2);
        Check.due("a layer on top removes nothing", x.cachedTiles(1), 1);
    }

    private static void counter() {
        Check.promise(30, "counter");
        AdjustmentStack x = new AdjustmentStack();
        Check.due("counter(-1)", x.counter(-1), INVALID);
        Check.due("counter(3)", x.counter(3), INVALID);
        x.addLayer(4, 0, 0);
        x.setCacheLimit(1);
        x.pixel(0, 0, 0);
        x.pixel(0, 0, 0);
        x.pixel(0, 4, 0);
        counters("then", x, 2, 1, 1);
        x.save(0);
        x.newImage(4, 4);
        x.undo();
        x.restore(0);
        x.clearCache();
        x.setTileSize(3);
        counters("at last", x, 2, 1, 1);
    }

    private static void oldestTile() {
        Check.promise(31, "oldestTile");
        AdjustmentStack x = new AdjustmentStack();
        x.newImage(16, 16);
        x.setTileSize(2);
        x.addLayer(4, 0, 0);
        x.addLayer(6, 3, 0);
        x.setEnabled(0, 0);
        Check.due("oldestTile() of none", x.oldestTile(), AdjustmentStack.NONE);
        x.pixel(1, 14, 4);
        Check.due("oldestTile()", x.oldestTile(), 1072);
        x.pixel(1, 0, 15);
        Check.due("oldestTile() stays", x.oldestTile(), 1072);
        x.pixel(1, 15, 5);
        Check.due("oldestTile() after it was found", x.oldestTile(), 1007);
        x.clearCache();
        Check.due("oldestTile() after clearCache()", x.oldestTile(), AdjustmentStack.NONE);
    }
}
