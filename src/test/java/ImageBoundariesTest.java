/** Promises 1 to 5: the boundary cases of a new object, the base image, and sizes. */
final class ImageBoundariesTest {
    private static final int INVALID = AdjustmentStack.INVALID_ARGUMENT;
    private static final int ILLEGAL = AdjustmentStack.ILLEGAL_STATE;

    private ImageBoundariesTest() {
    }

    public static void main(String[] args) {
        newObjectIsEmpty();
        newObjectHasRoomForSixteenTiles();
        leastAndGreatestImages();
        wrapAroundOfPixels();
        newImageOfTheSameSize();
        cornersAndValues();
        reachOfEveryKind();
        cornersOfAReach();
        reachesAddUp();
        fewestAndMostRemovedTiles();
        tilesFarFromTheCornersStay();
        rectanglesOnTheEdges();
        rectanglesOverTiles();
        sizes();
        Check.end();
    }

    private static void newObjectIsEmpty() {
        Check.promise(1, "A new object");
        AdjustmentStack x = new AdjustmentStack();
        Check.due("layer(0, 0)", x.layer(0, 0), INVALID);
        Check.due("pixel(-1, 7, 7)", x.pixel(-1, 7, 7), 66);
        Check.due("pixel(-1, 8, 7)", x.pixel(-1, 8, 7), INVALID);
        Check.due("pixel(-1, 7, 8)", x.pixel(-1, 7, 8), INVALID);
        Check.due("oldestTile()", x.oldestTile(), AdjustmentStack.NONE);
        Check.due("snapshotDifference(0)", x.snapshotDifference(0), ILLEGAL);
        Check.due("snapshotDifference(1)", x.snapshotDifference(1), ILLEGAL);
        Check.due("undo()", x.undo(), ILLEGAL);
        Check.due("append(';') to an empty text", x.append(';'), 1);
        Check.due("clearText()", x.clearText(), 1);
        Check.due("loadStack() of an empty text", x.loadStack(), 0);
    }

    private static void newObjectHasRoomForSixteenTiles() {
        Check.promise(1, "A new object");
        AdjustmentStack x = new AdjustmentStack();
        for (int i = 0; i < 5; i++) {
            x.addLayer(1, 1, 0);
        }
        Check.due("prefetch(3)", x.prefetch(3), 16);
        Check.due("dropped with 16 tiles", x.counter(2), 0);
        Check.due("isCached(3, 1, 1)", x.isCached(3, 1, 1), 1);
        Check.due("isCached(3, 2, 1)", x.isCached(3, 2, 1), INVALID);
        Check.due("isCached(3, 1, 2)", x.isCached(3, 1, 2), INVALID);
        Check.due("pixel(4, 0, 0)", x.pixel(4, 0, 0), 5);
        Check.due("dropped with 17 tiles", x.counter(2), 1);
    }

    private static void leastAndGreatestImages() {
        Check.promise(2, "newImage");
        int[] sides = {4, 5, 15, 16};
        for (int width : sides) {
            for (int height : sides) {
                AdjustmentStack x = new AdjustmentStack();
                String call = "newImage(" + width + ", " + height + ")";
                Check.due(call, x.newImage(width, height), width * height);
                Check.due("size(0) after " + call, x.size(0), width);
                Check.due("size(1) after " + call, x.size(1), height);
                Check.due("the last pixel of " + call, x.pixel(-1, width - 1, height - 1),
                    (17 * (width - 1) + 29 * (height - 1)) % 256);
                Check.due("the column after the last one of " + call, x.pixel(-1, width, 0), INVALID);
                Check.due("the row after the last one of " + call, x.pixel(-1, 0, height), INVALID);
                Check.due("all pixels of " + call, x.histogram(-1, 0, 255), width * height);
            }
        }
    }

    private static void wrapAroundOfPixels() {
        Check.promise(2, "newImage");
        AdjustmentStack x = new AdjustmentStack();
        x.newImage(16, 16);
        int[][] pixels = {{0, 0, 0}, {15, 0, 255}, {0, 8, 232}, {0, 9, 5}, {10, 3, 1}, {9, 3, 240}, {13, 10, 255},
            {8, 13, 1}, {7, 13, 240}, {15, 15, 178}};
        for (int[] each : pixels) {
            Check.due("pixel(-1, " + each[0] + ", " + each[1] + ")", x.pixel(-1, each[0], each[1]), each[2]);
        }
        int sum = 0;
        for (int i = 0; i < 256; i++) {
            sum += (17 * (i % 16) + 29 * (i / 16)) % 256;
        }
        Check.due("sum(-1)", x.sum(-1), sum);
    }

    private static void newImageOfTheSameSize() {
        Check.promise(2, "newImage");
        AdjustmentStack x = new AdjustmentStack();
        x.addLayer(4, 0, 0);
        x.dab(0, 15, 15, 8);
        x.fillRectangle(0, 0, 8, 8, 77);
        x.prefetch(0);
        Check.due("newImage(8, 8)", x.newImage(8, 8), 64);
        Check.due("pixel(-1, 7, 0)", x.pixel(-1, 7, 0), 119);
        Check.due("the layers stay", x.size(2), 1);
        Check.due("their masks stay", x.layer(0, 8), 1);
        Check.due("the tiles go", x.cachedTiles(0), 0);
        Check.due("this is not dropping", x.counter(2), 0);
        Check.due("undo()", x.undo(), 3);
        Check.due("pixel(-1, 7, 0) again", x.pixel(-1, 7, 0), 77);
    }

    private static void cornersAndValues() {
        Check.promise(3, "setPixel");
        int[] sides = {4, 16};
        for (int side : sides) {
            AdjustmentStack x = new AdjustmentStack();
            x.newImage(side, side);
            int last = side - 1;
            int[][] corners = {{0, 0}, {last, 0}, {0, last}, {last, last}};
            int[] values = {0, 1, 254, 255};
            for (int[] corner : corners) {
                for (int value : values) {
                    Check.due("setPixel", x.setPixel(corner[0], corner[1], value), 0);
                    Check.due("the pixel", x.pixel(-1, corner[0], corner[1]), value);
                }
            }
            int[][] outside = {{-1, 0}, {0, -1}, {side, last}, {last, side}, {-1, last}, {side, 0}};
            for (int[] each : outside) {
                Check.due("setPixel(" + each[0] + ", " + each[1] + ", 0)", x.setPixel(each[0], each[1], 0), INVALID);
            }
            Check.due("setPixel(0, 0, -1)", x.setPixel(0, 0, -1), INVALID);
            Check.due("setPixel(0, 0, 256)", x.setPixel(0, 0, 256), INVALID);
            Check.due("the pixel stays", x.pixel(-1, 0, 0), 255);
        }
    }

    private static void reachOfEveryKind() {
        Check.promise(3, "setPixel");
        int[][] kinds = {{0, 1, 2, 0}, {1, 9, 0, 0}, {2, 9, 0, 0}, {3, 9, 0, 0}, {4, 0, 0, 0}, {5, 9, 0, 0}, {6, 1, 0, 1},
            {6, 2, 0, 2}, {6, 3, 0, 3}, {7, 1, 0, 1}, {7, 2, 0, 2}, {8, 1, 0, 1}, {8, 3, 0, 3}, {9, 1, 0, 1}, {9, 3, 0, 3},
            {10, 1, 300, 1}, {10, 3, 0, 3}, {11, 0, 0, 0}, {11, -3, 0, 3}, {11, 1, -2, 2}, {11, 0, 1, 1}, {12, 9, 0, 0},
            {13, 0, 0, 16}};
        for (int[] kind : kinds) {
            for (int upright = 0; upright <= 1; upright++) {
                removedByDistance(kind, upright == 1);
            }
        }
    }

    /** The tile with the columns (or rows) 8 and 9 is removed just by pixels that are near enough. */
    private static void removedByDistance(int[] kind, boolean upright) {
        AdjustmentStack x = new AdjustmentStack();
        x.newImage(16, 16);
        x.setTileSize(2);
        x.addLayer(kind[0], kind[1], kind[2]);
        for (int i = 0; i < 16; i++) {
            x.pixel(0, upright ? 0 : 8, upright ? 8 : 0);
            int distance = Math.max(0, Math.max(8 - i, i - 9));
            Check.due("kind " + kind[0] + " (" + kind[1] + ", " + kind[2] + ") at the distance " + distance,
                x.setPixel(upright ? 0 : i, upright ? i : 0, 0), distance <= kind[3] ? 1 : 0);
        }
    }

    private static void cornersOfAReach() {
        Check.promise(3, "setPixel");
        for (int reach = 1; reach <= 3; reach++) {
            AdjustmentStack x = new AdjustmentStack();
            x.newImage(16, 16);
            x.setTileSize(2);
            x.addLayer(8, reach, 0);
            int[] near = {8 - reach, 9 + reach};
            int[] far = {7 - reach, 10 + reach};
            for (int i : near) {
                for (int j : near) {
                    x.pixel(0, 8, 8);
                    Check.due("as far in columns as in rows", x.setPixel(i, j, 0), 1);
                }
                for (int j : far) {
                    x.pixel(0, 8, 8);
                    Check.due("too far in rows", x.setPixel(i, j, 0), 0);
                    Check.due("too far in columns", x.setPixel(j, i, 0), 0);
                }
            }
        }
    }

    private static void reachesAddUp() {
        Check.promise(3, "setPixel");
        String[] stacks = {"addLayer 6 2 0, addLayer 4 0 0", "addLayer 6 2 0, addLayer 4 0 0, addLayer 9 1 0",
            "addLayer 6 2 0, addLayer 11 0 3, addLayer 1 0 0, setEnabled 0 0", "addLayer 4 0 0, addLayer 8 3 0, "
            + "setBlend 1 0 0", "addLayer 7 2 0, addLayer 7 2 0, addLayer 6 1 0, setEnabled 1 0"};
        int[] reaches = {2, 3, 3, 3, 3};
        for (int i = 0; i < stacks.length; i++) {
            AdjustmentStack x = new AdjustmentStack();
            Call.makeAll(x, "newImage 16 16, setTileSize 2, setCacheLimit 1, " + stacks[i]);
            int top = x.size(2) - 1;
            for (int column = 0; column < 16; column++) {
                x.pixel(top, 8, 5);
                int distance = Math.max(0, Math.max(8 - column, column - 9));
                Check.due(stacks[i] + " at the distance " + distance, x.setPixel(column, 5, 0),
                    distance <= reaches[i] ? 1 : 0);
            }
        }
    }

    private static void fewestAndMostRemovedTiles() {
        Check.promise(3, "setPixel");
        AdjustmentStack x = new AdjustmentStack();
        Call.makeAll(x, "newImage 16 16, setTileSize 2, setCacheLimit 64");
        Check.due("without layers", x.setPixel(0, 0, 0), 0);
        x.addLayer(13, 0, 0);
        Check.due("without tiles", x.setPixel(0, 0, 0), 0);
        x.prefetch(0);
        Check.due("the value that is there already", x.setPixel(0, 0, 0), 64);
        x.prefetch(0);
        Check.due("from the last corner", x.setPixel(15, 15, 0), 64);
        x.prefetch(0);
        x.setEnabled(0, 0);
        Check.due("of a layer that is not enabled", x.setPixel(15, 15, 0), 0);
        x.removeLayer(0);
        x.addLayer(6, 3, 0);
        x.prefetch(0);
        Check.due("the first corner, reach 3", x.setPixel(0, 0, 0), 4);
        x.prefetch(0);
        Check.due("the last corner, reach 3", x.setPixel(15, 15, 0), 4);
        x.prefetch(0);
        Check.due("the middle, reach 3", x.setPixel(7, 7, 0), 16);
        Check.due("none is dropped", x.counter(2), 0);
    }

    /** The reach of a layer ends at the edges: it does not come in again at the other side, or in another layer. */
    private static void tilesFarFromTheCornersStay() {
        Check.promise(3, "setPixel");
        int[][] corners = {{0, 0}, {15, 0}, {0, 15}, {15, 15}};
        for (int[] corner : corners) {
            for (int prefetched = 0; prefetched <= 2; prefetched++) {
                AdjustmentStack x = new AdjustmentStack();
                Call.makeAll(x, "newImage 16 16, setTileSize 2, setCacheLimit 64, addLayer 4 0 0, addLayer 6 3 0, "
                    + "addLayer 4 0 0");
                for (int above = 0; above <= 2; above++) {
                    if (above != prefetched) {
                        x.setEnabled(above, 0);
                    }
                }
                x.prefetch(prefetched);
                int tiles = prefetched == 1 ? 4 : 1;
                Check.due("tiles of layer " + prefetched, x.setPixel(corner[0], corner[1], 0), tiles);
                Check.due("the others stay", x.cachedTiles(prefetched), 64 - tiles);
            }
            AdjustmentStack x = new AdjustmentStack();
            Call.makeAll(x, "newImage 16 16, setTileSize 2, setCacheLimit 64, addLayer 4 0 0, addLayer 6 3 0, "
                + "addLayer 4 0 0, prefetch 0");
            Check.due("tiles of the bottom layer", x.setPixel(corner[0], corner[1], 0), 1);
            Call.makeAll(x, "clearCache, addLayer 4 0 0, moveLayer 2 0");
            for (int row = 0; row < 16; row += 2) {
                x.pixel(1, 0, row);
                x.pixel(1, 14, row);
            }
            Check.due("tiles of two lower layers", x.setPixel(corner[0], corner[1], 0), 2);
        }
    }

    private static void rectanglesOnTheEdges() {
        Check.promise(4, "fillRectangle");
        AdjustmentStack x = new AdjustmentStack();
        x.newImage(16, 4);
        int[][] inside = {{0, 0, 16, 4}, {0, 0, 1, 1}, {15, 0, 1, 4}, {0, 3, 16, 1}, {15, 3, 1, 1}, {1, 1, 15, 3}};
        for (int[] each : inside) {
            Check.due("fillRectangle", x.fillRectangle(0, 0, 16, 4, 0), 0);
            Check.due("fillRectangle", x.fillRectangle(each[0], each[1], each[2], each[3], 255), 0);
            Check.due("filled pixels", x.histogram(-1, 255, 255), each[2] * each[3]);
            Check.due("the first one", x.pixel(-1, each[0], each[1]), 255);
            Check.due("the last one", x.pixel(-1, each[0] + each[2] - 1, each[1] + each[3] - 1), 255);
        }
        int[][] outside = {{0, 0, 17, 4}, {0, 0, 16, 5}, {1, 0, 16, 1}, {0, 1, 1, 4}, {16, 0, 1, 1}, {0, 4, 1, 1},
            {-1, 0, 2, 1}, {0, -1, 1, 2}, {0, 0, 0, 1}, {0, 0, 1, 0}, {16, 4, 0, 0}, {-1, -1, 1, 1}};
        for (int[] each : outside) {
            Check.due("fillRectangle(" + each[0] + ", " + each[1] + ", " + each[2] + ", " + each[3] + ", 7)",
                x.fillRectangle(each[0], each[1], each[2], each[3], 7), INVALID);
        }
        Check.due("nothing is filled with 7", x.histogram(-1, 7, 7), 0);
        Check.due("fillRectangle(0, 0, 1, 1, 0)", x.fillRectangle(0, 0, 1, 1, 0), 0);
        Check.due("fillRectangle(0, 0, 1, 1, 256)", x.fillRectangle(0, 0, 1, 1, 256), INVALID);
        Check.due("fillRectangle(0, 0, 1, 1, -1)", x.fillRectangle(0, 0, 1, 1, -1), INVALID);
    }

    private static void rectanglesOverTiles() {
        Check.promise(4, "fillRectangle");
        AdjustmentStack x = new AdjustmentStack();
        Call.makeAll(x, "newImage 16 16, setTileSize 4, addLayer 4 0 0");
        int[][] removed = {{4, 4, 4, 4, 1}, {3, 4, 5, 4, 2}, {4, 3, 4, 5, 2}, {4, 4, 5, 4, 2}, {4, 4, 4, 5, 2},
            {3, 3, 6, 6, 9}, {0, 0, 16, 16, 16}, {0, 0, 1, 1, 1}, {15, 15, 1, 1, 1}, {7, 0, 2, 16, 8}, {0, 8, 16, 1, 4}};
        for (int[] each : removed) {
            x.prefetch(0);
            Check.due("fillRectangle(" + each[0] + ", " + each[1] + ", " + each[2] + ", " + each[3] + ", 9)",
                x.fillRectangle(each[0], each[1], each[2], each[3], 9), each[4]);
        }
        x.prefetch(0);
        Check.due("the values that are there already", x.fillRectangle(0, 0, 4, 4, 9), 1);
        Check.due("the tiles are gone already", x.fillRectangle(0, 0, 4, 4, 9), 0);
        Check.due("none is dropped", x.counter(2), 0);
    }

    private static void sizes() {
        Check.promise(5, "size");
        AdjustmentStack x = new AdjustmentStack();
        int[][] tiles = {{4, 4, 8, 1}, {4, 4, 5, 1}, {4, 4, 4, 1}, {4, 4, 3, 4}, {4, 4, 2, 4}, {16, 16, 2, 64},
            {16, 16, 3, 36}, {16, 16, 8, 4}, {16, 4, 3, 12}, {9, 8, 8, 2}, {8, 9, 8, 2}, {8, 8, 8, 1}, {9, 9, 8, 4},
            {15, 16, 5, 12}};
        for (int[] each : tiles) {
            x.newImage(each[0], each[1]);
            x.setTileSize(each[2]);
            Check.due("size(3)", x.size(3), each[2]);
            Check.due("size(4) of " + each[0] + " by " + each[1] + " in tiles of " + each[2], x.size(4), each[3]);
        }
        for (int layers = 0; layers <= 8; layers++) {
            Check.due("size(2)", x.size(2), layers);
            x.addLayer(4, 0, 0);
        }
        Check.due("size(2) after a ninth layer was refused", x.size(2), 8);
        x.setCacheLimit(1);
        Check.due("size(5), the least", x.size(5), 1);
        x.setCacheLimit(64);
        Check.due("size(5), the greatest", x.size(5), 64);
        Check.due("size(-1)", x.size(-1), INVALID);
        Check.due("size(6)", x.size(6), INVALID);
    }
}
