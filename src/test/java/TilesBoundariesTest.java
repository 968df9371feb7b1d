/** Promises 23 to 31, and tiles and the cache in the description: their boundary cases. */
final class TilesBoundariesTest {
    private static final int INVALID = AdjustmentStack.INVALID_ARGUMENT;
    private static final int NONE = AdjustmentStack.NONE;

    private TilesBoundariesTest() {
    }

    public static void main(String[] args) {
        numbersOfTiles();
        smallerTilesAtTheEdges();
        requestsBelow();
        requestsByReach();
        requestsInOrder();
        droppedOnlyAtTheEnd();
        leastRecentlyUsed();
        changesThatRemoveAll();
        changesThatRemoveFromALayerOn();
        callsThatRemoveNothing();
        everyPixelOfCachedTiles();
        pixelsAtTheEdges();
        pixelsOfLayersThatAreNotEnabled();
        prefetchFromNoneToAll();
        limitsOfTheCache();
        sidesOfTiles();
        clearFromNoneToAll();
        tilesThatDoNotExist();
        cachedFromNoneToAll();
        counters();
        oldestFromNoneToLast();
        Check.end();
    }

    private static AdjustmentStack made(String calls) {
        AdjustmentStack x = new AdjustmentStack();
        Call.makeAll(x, calls);
        return x;
    }

    private static void counters(AdjustmentStack x, String when, int computed, int found, int dropped) {
        Check.due("computed " + when, x.counter(0), computed);
        Check.due("found " + when, x.counter(1), found);
        Check.due("dropped " + when, x.counter(2), dropped);
    }

    private static void numbersOfTiles() {
        Check.description("Tiles: at the right and at the bottom they may be smaller");
        for (int side = 2; side <= 8; side++) {
            for (int width = 4; width <= 16; width++) {
                AdjustmentStack x = made("newImage " + width + " " + (20 - width) + ", setTileSize " + side
                    + ", setCacheLimit 64, addLayer 4 0 0");
                int columns = (width + side - 1) / side;
                int rows = (20 - width + side - 1) / side;
                String of = " of " + width + " by " + (20 - width) + " in tiles of " + side;
                Check.due("size(4)" + of, x.size(4), columns * rows);
                Check.due("prefetch(0)" + of, x.prefetch(0), columns * rows);
                Check.due("the last tile" + of, x.isCached(0, columns - 1, rows - 1), 1);
                Check.due("no column after the last one" + of, x.isCached(0, columns, 0), INVALID);
                Check.due("no row after the last one" + of, x.isCached(0, 0, rows), INVALID);
            }
        }
    }

    private static void smallerTilesAtTheEdges() {
        Check.description("Tiles: at the right and at the bottom they may be smaller");
        AdjustmentStack x = made("newImage 9 9, setTileSize 4, addLayer 4 0 0, addLayer 6 1 0");
        Check.due("the last pixel", x.pixel(1, 8, 8), (4 * 255 - 66 - 83 - 95 - 112) / 4);
        Check.due("the tile of one pixel", x.isCached(1, 2, 2), 1);
        Check.due("four tiles below", x.cachedTiles(0), 4);
        x.clearCache();
        x.pixel(1, 7, 7);
        Check.due("the tile before it needs all around", x.cachedTiles(0), 9);
        Check.due("a pixel of the last tile", x.setPixel(8, 8, 0), 2);
        Check.due("the tile before the last one goes", x.isCached(1, 1, 1), 0);
        Check.due("a pixel far away", x.setPixel(0, 0, 0), 1);
    }

    /** A layer asks the greatest enabled layer below, and layers that are not enabled pass requests on. */
    private static void requestsBelow() {
        Check.description("Tiles: requests of layers below");
        AdjustmentStack x = made("addLayer 4 0 0, addLayer 8 3 0, addLayer 1 3 0, addLayer 6 1 0, addLayer 9 3 0, "
            + "setEnabled 1 0, setEnabled 4 0");
        x.pixel(4, 0, 0);
        int[] tiles = {4, 0, 4, 1, 0};
        for (int layer = 0; layer < 5; layer++) {
            Check.due("tiles of layer " + layer, x.cachedTiles(layer), tiles[layer]);
        }
        counters(x, "with one tile of layer 3", 9, 0, 0);
        x.pixel(4, 0, 0);
        counters(x, "when it is found", 9, 1, 0);
        Call.makeAll(x, "setEnabled 2 0, setEnabled 0 0");
        x.pixel(3, 0, 0);
        counters(x, "when it is the only enabled layer", 10, 1, 0);
        Call.makeAll(x, "setEnabled 3 0");
        for (int layer = 0; layer < 5; layer++) {
            Check.due("no layer is enabled", x.pixel(layer, 1, 1), 46);
            Check.due("prefetch(" + layer + ")", x.prefetch(layer), 0);
        }
        counters(x, "when no layer is enabled", 10, 1, 0);
        Check.due("nothing is cached", x.oldestTile(), NONE);
    }

    private static int tilesBelow(int kind, int a, int b, int side, int column, int row) {
        AdjustmentStack x = made("newImage 16 16, setCacheLimit 64, addLayer 4 0 0, setTileSize " + side);
        x.addLayer(kind, a, b);
        x.pixel(1, column * side, row * side);
        int tiles = x.cachedTiles(0);
        Check.due("all of them are computed", x.counter(0), tiles + 1);
        return tiles;
    }

    private static void requestsByReach() {
        Check.description("Tiles: requests of tiles at a distance of at most the reach");
        int[][] due = {{6, 1, 0, 2, 9}, {6, 2, 0, 2, 9}, {6, 3, 0, 2, 25}, {8, 3, 0, 3, 9}, {9, 2, 0, 4, 9}, {7, 2, 0, 2, 9},
            {10, 3, 0, 2, 25}, {11, 0, 0, 2, 1}, {11, 1, 0, 2, 9}, {11, 0, -3, 2, 25}, {11, 3, 3, 3, 9}, {0, 1, 9, 2, 1},
            {5, 9, 0, 2, 1}, {12, 9, 0, 2, 1}, {1, 3, 0, 2, 1}, {3, 3, 0, 2, 1}};
        for (int[] each : due) {
            Check.due("kind " + each[0] + " (" + each[1] + ", " + each[2] + ") in tiles of " + each[3],
                tilesBelow(each[0], each[1], each[2], each[3], 2, 2), each[4]);
        }
        Check.due("stretch in tiles of 4", tilesBelow(13, 0, 0, 4, 3, 3), 16);
        Check.due("stretch in tiles of 8", tilesBelow(13, 0, 0, 8, 0, 1), 4);
        Check.due("reach 3 in the first corner", tilesBelow(6, 3, 0, 2, 0, 0), 9);
        Check.due("reach 2 in the first corner", tilesBelow(6, 2, 0, 2, 0, 0), 4);
        Check.due("reach 3 in the last corner", tilesBelow(6, 3, 0, 2, 7, 7), 9);
        Check.due("reach 2 in the last corner", tilesBelow(6, 2, 0, 2, 7, 7), 4);
        Check.due("reach 3 at the left edge", tilesBelow(6, 3, 0, 2, 0, 4), 15);
        Check.due("reach 3 one tile from the lower edge", tilesBelow(6, 3, 0, 2, 4, 6), 20);
        Check.due("reach 1 in tiles of 8", tilesBelow(6, 1, 0, 8, 1, 0), 4);
        Check.due("reach 1 in tiles of 7", tilesBelow(6, 1, 0, 7, 1, 1), 9);
        Check.due("reach 1 in tiles of 7, the smaller last one", tilesBelow(6, 1, 0, 7, 2, 2), 4);
    }

    /** The order of use, told tile by tile. */
    private static void order(AdjustmentStack x, String of, int... tiles) {
        int left = tiles.length;
        for (int tile : tiles) {
            Check.due("the oldest one of " + left + " tiles " + of, x.oldestTile(), tile);
            left--;
            if (left > 0) {
                Check.due("dropped of " + (left + 1) + " tiles " + of, x.setCacheLimit(left), 1);
            }
        }
        Check.due("tiles " + of, x.clearCache(), 1);
        Check.due("no tile is left " + of, x.oldestTile(), NONE);
    }

    private static void requestsInOrder() {
        Check.description("Tiles: row by row, and in each row from left to right; a computed one after those it requested");
        AdjustmentStack x = made("addLayer 4 0 0, addLayer 6 1 0");
        x.pixel(1, 7, 7);
        order(x, "of a request", 0, 10, 1, 11, 1011);
        x = made("addLayer 4 0 0, addLayer 6 1 0");
        x.prefetch(1);
        order(x, "of prefetch", 1000, 1010, 1001, 0, 10, 1, 11, 1011);
        x = made("addLayer 4 0 0, addLayer 1 1 0, addLayer 1 1 0");
        x.prefetch(2);
        order(x, "of single requests", 0, 1000, 2000, 10, 1010, 2010, 1, 1001, 2001, 11, 1011, 2011);
        x = made("addLayer 4 0 0, addLayer 1 1 0");
        Call.makeAll(x, "prefetch 1, pixel 0 0 0, pixel 1 4 4, pixel 0 4 0");
        order(x, "after some were found", 1000, 1010, 1, 1001, 11, 0, 1011, 10);
    }

    private static void droppedOnlyAtTheEnd() {
        Check.description("Tiles: dropped only at the end of a call");
        AdjustmentStack x = made("setCacheLimit 1, addLayer 4 0 0, addLayer 6 1 0");
        Check.due("prefetch(1)", x.prefetch(1), 8);
        counters(x, "with a limit of 1", 8, 12, 7);
        Check.due("the last one stays", x.oldestTile(), 1011);
        Check.due("prefetch(1) again", x.prefetch(1), 7);
        counters(x, "again", 15, 12 + 9, 14);
        Check.due("pixel(1, 0, 0)", x.pixel(1, 0, 0), (255 * 4 - 17 - 29 - 46) / 4);
        counters(x, "after a pixel", 20, 12 + 9, 19);
    }

    private static void leastRecentlyUsed() {
        Check.description("Tiles: the one that was used least recently is dropped");
        AdjustmentStack x = made("setCacheLimit 3, addLayer 4 0 0");
        Call.makeAll(x, "pixel 0 0 0, pixel 0 4 0, pixel 0 0 4");
        Check.due("as many as the limit", x.counter(2), 0);
        Call.makeAll(x, "pixel 0 0 0, pixel 0 4 4");
        Check.due("one more than the limit", x.counter(2), 1);
        Check.due("the one used first, but found later, stays", x.isCached(0, 0, 0), 1);
        Check.due("the one used least recently goes", x.isCached(0, 1, 0), 0);
        Check.due("the oldest one now", x.oldestTile(), 1);
        Check.due("questions use no tile", x.isCached(0, 0, 1) + x.cachedTiles(0) + x.maskValue(0, 0, 4), 1 + 3 + 255);
        Check.due("the oldest one still", x.oldestTile(), 1);
    }

    private static void changesThatRemoveAll() {
        Check.description("Tiles: changes that remove all tiles");
        String[] changes = {"newImage 8 8", "loadStack", "setTileSize 4", "clearCache", "undo", "restore 0"};
        for (String change : changes) {
            AdjustmentStack x = made("addLayer 4 0 0, addLayer 1 1 0, save 0, setPixel 0 0 0, prefetch 1, " + change);
            Check.due("tiles after " + change, x.clearCache(), 0);
            Check.due("oldestTile() after " + change, x.oldestTile(), NONE);
            counters(x, "after " + change, 8, 0, 0);
            Check.due("setCacheLimit(1) after " + change, x.setCacheLimit(1), 0);
        }
    }

    private static void changesThatRemoveFromALayerOn() {
        Check.description("Tiles: changes that remove the tiles of a layer and of all layers above");
        String[] changes = {"setParameters 1 0 0", "setBlend 1 0 100", "setEnabled 1 0", "setMask 1 0 0 0 0 0",
            "setFeather 1 0", "invertMask 1", "dab 1 0 0 0", "removeLayer 1", "moveLayer 1 2", "moveLayer 2 1",
            "moveLayer 3 1", "duplicateLayer 0"};
        for (String change : changes) {
            AdjustmentStack x = made("addLayer 1 1 0, addLayer 1 2 0, addLayer 1 3 0, addLayer 1 4 0, prefetch 3, "
                + change);
            Check.due("tiles below after " + change, x.cachedTiles(0), 4);
            for (int layer = 1; layer < x.size(2); layer++) {
                Check.due("tiles of layer " + layer + " after " + change, x.cachedTiles(layer), 0);
            }
            counters(x, "after " + change, 16, 0, 0);
            Check.due("clearCache() after " + change, x.clearCache(), 4);
        }
    }

    private static void callsThatRemoveNothing() {
        Check.description("Tiles: other calls remove no tiles");
        String[] calls = {"addLayer 4 0 0", "save 0", "save 1", "append 120", "clearText", "setCacheLimit 8",
            "setCacheLimit 64", "setEnabled 0 1", "moveLayer 0 0", "restore 0", "undo", "setTileSize 9", "newImage 3 3",
            "setPixel 8 0 0", "removeLayer 2", "flatten -1", "pixel -1 0 0", "pixel 1 0 0", "prefetch 1"};
        for (String call : calls) {
            AdjustmentStack x = made("addLayer 4 0 0, addLayer 1 1 0, save 1, restore 1, prefetch 1");
            Call.of(call).on(x);
            Check.due("tiles of layer 0 after " + call, x.cachedTiles(0), 4);
            Check.due("tiles of layer 1 after " + call, x.cachedTiles(1), 4);
            Check.due("dropped after " + call, x.counter(2), 0);
        }
        AdjustmentStack x = made("addLayer 4 0 0, addLayer 1 1 0, prefetch 1, append 120");
        Check.due("a text that is no stack", x.loadStack(), -10);
        Check.due("tiles after that", x.cachedTiles(0) + x.cachedTiles(1), 8);
    }

    /** Tiles keep their pixels apart: what is computed for one of them changes no other. */
    private static void everyPixelOfCachedTiles() {
        Check.promise(23, "pixel");
        for (int side = 2; side <= 8; side++) {
            AdjustmentStack x = made("newImage 16 16, setCacheLimit 64, addLayer 1 100 0, setMask 0 1 0 0 0 15, setTileSize "
                + side + ", prefetch 0");
            int computed = x.counter(0);
            for (int row = 0; row < 16; row++) {
                for (int column = 0; column < 16; column++) {
                    int v = (17 * column + 29 * row) % 256;
                    Check.due("pixel(0, " + column + ", " + row + ") in tiles of " + side, x.pixel(0, column, row),
                        column == 0 ? Math.min(255, v + 100) : v);
                }
            }
            Check.due("each tile is computed once", x.counter(0), computed);
            Check.due("and found for each pixel", x.counter(1), 256);
        }
    }

    private static void pixelsAtTheEdges() {
        Check.promise(23, "pixel");
        int[][] sizes = {{4, 16}, {16, 4}, {5, 7}, {16, 16}};
        for (int[] size : sizes) {
            AdjustmentStack x = made("newImage " + size[0] + " " + size[1] + ", addLayer 4 0 0, addLayer 4 0 0");
            for (int layer = -1; layer <= 1; layer++) {
                Check.due("the last pixel", x.pixel(layer, size[0] - 1, size[1] - 1),
                    Math.abs((layer == 0 ? 255 : 0) - (17 * (size[0] - 1) + 29 * (size[1] - 1)) % 256));
                int[][] outside = {{size[0], 0}, {0, size[1]}, {-1, 0}, {0, -1}, {Integer.MAX_VALUE, 0},
                    {0, Integer.MIN_VALUE}};
                for (int[] each : outside) {
                    Check.due("pixel(" + layer + ", " + each[0] + ", " + each[1] + ")",
                        x.pixel(layer, each[0], each[1]), INVALID);
                }
            }
            Check.due("pixel(-2, 0, 0)", x.pixel(-2, 0, 0), INVALID);
            Check.due("pixel(2, 0, 0)", x.pixel(2, 0, 0), INVALID);
            counters(x, "then", 2, 1, 0);
        }
        Check.due("pixel(0, 0, 0) of a new object", new AdjustmentStack().pixel(0, 0, 0), INVALID);
        Check.due("pixel(-1, 0, 0) of a new object", new AdjustmentStack().pixel(-1, 0, 0), 0);
    }

    private static void pixelsOfLayersThatAreNotEnabled() {
        Check.promise(23, "pixel");
        AdjustmentStack x = made("addLayer 4 0 0, addLayer 1 10 0, setEnabled 0 0");
        Check.due("the bottom layer is not enabled", x.pixel(0, 7, 0), 119);
        counters(x, "after it", 0, 0, 0);
        Check.due("the top layer", x.pixel(1, 7, 0), 129);
        counters(x, "after the top layer", 1, 0, 0);
        Call.makeAll(x, "setEnabled 0 1, setEnabled 1 0");
        Check.due("the top layer is not enabled", x.pixel(1, 7, 0), 136);
        Check.due("the tile is one of the layer below", x.oldestTile(), 10);
        Check.due("the layer below", x.pixel(0, 6, 0), 153);
        counters(x, "at last", 2, 1, 0);
    }

    private static void prefetchFromNoneToAll() {
        Check.promise(24, "prefetch");
        Check.due("a new object", new AdjustmentStack().prefetch(0), INVALID);
        AdjustmentStack x = made("newImage 16 16, setTileSize 2, setCacheLimit 64");
        for (int i = 0; i < 8; i++) {
            x.addLayer(13, 0, 0);
        }
        Check.due("prefetch(8)", x.prefetch(8), INVALID);
        Check.due("prefetch(-1)", x.prefetch(-1), INVALID);
        Check.due("prefetch(-2)", x.prefetch(-2), INVALID);
        counters(x, "after wrong calls", 0, 0, 0);
        Check.due("the bottom layer", x.prefetch(0), 64);
        Check.due("all tiles are found", x.prefetch(0), 0);
        counters(x, "after two calls", 64, 64, 0);
        Check.due("all layers", x.prefetch(7), 7 * 64);
        counters(x, "after all layers", 512, 64 + 64 + 7 * 64 * 63, 512 - 64);
        Check.due("the least recently used one of the 64 that stay", x.oldestTile(), 6010);
        x = made("newImage 4 4, setTileSize 4, addLayer 4 0 0");
        Check.due("one tile", x.prefetch(0), 1);
        Check.due("one tile, found", x.prefetch(0), 0);
    }

    private static void limitsOfTheCache() {
        Check.promise(25, "setCacheLimit");
        AdjustmentStack x = made("newImage 16 16, setTileSize 2, addLayer 4 0 0");
        Check.due("the limit at first", x.size(5), 16);
        x.prefetch(0);
        counters(x, "with the limit at first", 64, 0, 48);
        int[] wrong = {0, -1, 65, 66, Integer.MIN_VALUE, Integer.MAX_VALUE};
        for (int limit : wrong) {
            Check.due("setCacheLimit(" + limit + ")", x.setCacheLimit(limit), INVALID);
            Check.due("the limit stays", x.size(5), 16);
        }
        Check.due("setCacheLimit(64)", x.setCacheLimit(64), 0);
        Check.due("prefetch(0)", x.prefetch(0), 64 - 16);
        Check.due("all tiles are kept", x.cachedTiles(0), 64);
        Check.due("setCacheLimit(64) again", x.setCacheLimit(64), 0);
        Check.due("setCacheLimit(63)", x.setCacheLimit(63), 1);
        Check.due("setCacheLimit(62)", x.setCacheLimit(62), 1);
        Check.due("setCacheLimit(1)", x.setCacheLimit(1), 61);
        Check.due("setCacheLimit(1) again", x.setCacheLimit(1), 0);
        Check.due("one tile is left", x.cachedTiles(0), 1);
        Check.due("dropped", x.counter(2), 48 + 63);
        x.setCacheLimit(64);
        Check.due("dropped tiles do not come back", x.cachedTiles(0), 1);
        Call.makeAll(x, "save 0, newImage 8 8, undo, restore 0");
        Check.due("the limit is no part of the state", x.size(5), 64);
    }

    private static void sidesOfTiles() {
        Check.promise(26, "setTileSize");
        AdjustmentStack x = made("newImage 16 16, setCacheLimit 64, addLayer 4 0 0");
        int[] wrong = {1, 0, -1, 9, 10, Integer.MIN_VALUE, Integer.MAX_VALUE};
        x.prefetch(0);
        for (int side : wrong) {
            Check.due("setTileSize(" + side + ")", x.setTileSize(side), INVALID);
            Check.due("the side stays", x.size(3), 4);
            Check.due("the tiles stay", x.cachedTiles(0), 16);
        }
        int removed = 16;
        int[] tiles = {64, 36, 16, 16, 9, 9, 4};
        for (int side = 2; side <= 8; side++) {
            Check.due("setTileSize(" + side + ")", x.setTileSize(side), removed);
            Check.due("setTileSize(" + side + ") again", x.setTileSize(side), 0);
            Check.due("size(3)", x.size(3), side);
            Check.due("prefetch(0) in tiles of " + side, x.prefetch(0), tiles[side - 2]);
            removed = tiles[side - 2];
        }
        Check.due("the same side", x.setTileSize(8), 4);
        Check.due("this is not dropping", x.counter(2), 0);
        Call.makeAll(x, "save 0, newImage 8 8, undo, restore 0");
        Check.due("the side is no part of the state", x.size(3), 8);
    }

    private static void clearFromNoneToAll() {
        Check.promise(27, "clearCache");
        AdjustmentStack x = new AdjustmentStack();
        Check.due("a new object", x.clearCache(), 0);
        Call.makeAll(x, "newImage 16 16, setTileSize 2, setCacheLimit 64, addLayer 4 0 0");
        Check.due("no tiles", x.clearCache(), 0);
        x.pixel(0, 0, 0);
        Check.due("one tile", x.clearCache(), 1);
        x.prefetch(0);
        Check.due("64 tiles", x.clearCache(), 64);
        Check.due("none again", x.clearCache(), 0);
        counters(x, "then", 65, 0, 0);
        Check.due("prefetch(0)", x.prefetch(0), 64);
        Check.due("no state is saved", x.undo(), 1);
    }

    private static void tilesThatDoNotExist() {
        Check.promise(28, "isCached");
        Check.due("a new object", new AdjustmentStack().isCached(0, 0, 0), INVALID);
        AdjustmentStack x = made("newImage 16 4, setTileSize 2, setCacheLimit 64, addLayer 4 0 0, addLayer 1 1 0, "
            + "prefetch 0");
        for (int row = -2; row <= 3; row++) {
            for (int column = -2; column <= 9; column++) {
                boolean exists = row >= 0 && row <= 1 && column >= 0 && column <= 7;
                Check.due("isCached(0, " + column + ", " + row + ")", x.isCached(0, column, row), exists ? 1 : INVALID);
                Check.due("isCached(1, " + column + ", " + row + ")", x.isCached(1, column, row), exists ? 0 : INVALID);
                Check.due("isCached(2, " + column + ", " + row + ")", x.isCached(2, column, row), INVALID);
                Check.due("isCached(-1, " + column + ", " + row + ")", x.isCached(-1, column, row), INVALID);
            }
        }
        Check.due("of a layer that is not enabled", x.setEnabled(1, 0), 1);
        Check.due("it has no tiles", x.isCached(1, 0, 0), 0);
        counters(x, "then", 16, 0, 0);
        Check.due("the oldest tile", x.oldestTile(), 0);
    }

    private static void cachedFromNoneToAll() {
        Check.promise(29, "cachedTiles");
        Check.due("a new object", new AdjustmentStack().cachedTiles(0), INVALID);
        AdjustmentStack x = made("newImage 16 16, setTileSize 2, setCacheLimit 64");
        for (int i = 0; i < 8; i++) {
            Check.due("of the layer to come", x.cachedTiles(i), INVALID);
            x.addLayer(4, 0, 0);
            Check.due("of a new layer", x.cachedTiles(i), 0);
        }
        Check.due("cachedTiles(8)", x.cachedTiles(8), INVALID);
        Check.due("cachedTiles(-1)", x.cachedTiles(-1), INVALID);
        x.prefetch(0);
        Check.due("all of the bottom layer", x.cachedTiles(0), 64);
        x.prefetch(7);
        for (int i = 0; i < 8; i++) {
            Check.due("8 of layer " + i, x.cachedTiles(i), 8);
        }
    }

    private static void counters() {
        Check.promise(30, "counter");
        AdjustmentStack x = new AdjustmentStack();
        counters(x, "of a new object", 0, 0, 0);
        int[] wrong = {-1, 3, 4, Integer.MIN_VALUE, Integer.MAX_VALUE};
        for (int what : wrong) {
            Check.due("counter(" + what + ")", x.counter(what), INVALID);
        }
        Call.makeAll(x, "setCacheLimit 2, addLayer 4 0 0, prefetch 0, prefetch 0");
        counters(x, "after two times four tiles", 4 + 2, 2, 4);
        Check.due("restore(0)", x.restore(0), AdjustmentStack.ILLEGAL_STATE);
        Call.makeAll(x, "save 0, restore 0, newImage 4 4, undo, loadStack, clearCache, setTileSize 8, setCacheLimit 1");
        counters(x, "since the object was created", 6, 2, 4);
    }

    private static void oldestFromNoneToLast() {
        Check.promise(31, "oldestTile");
        AdjustmentStack x = new AdjustmentStack();
        Check.due("a new object", x.oldestTile(), NONE);
        Call.makeAll(x, "newImage 16 16, setTileSize 2, setCacheLimit 1");
        for (int i = 0; i < 8; i++) {
            x.addLayer(4, 0, 0);
            Check.due("layers without tiles", x.oldestTile(), i == 0 ? NONE : 1000 * (i - 1) + 77);
            x.prefetch(i);
        }
        Check.due("the last tile of the top layer", x.oldestTile(), 7077);
        x.pixel(0, 0, 0);
        Check.due("the first tile of the bottom layer", x.oldestTile(), 0);
        x.pixel(3, 15, 0);
        Check.due("the last column", x.oldestTile(), 3070);
        x.pixel(3, 0, 15);
        Check.due("the last row", x.oldestTile(), 3007);
        x.clearCache();
        Check.due("no tile is cached", x.oldestTile(), NONE);
    }
}
