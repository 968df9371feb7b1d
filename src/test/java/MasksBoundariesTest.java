/** Promises 15 to 19, and masks in the description: their boundary cases. */
final class MasksBoundariesTest {
    private static final int INVALID = AdjustmentStack.INVALID_ARGUMENT;
    private static final int FULL = AdjustmentStack.CAPACITY_EXCEEDED;

    private MasksBoundariesTest() {
    }

    public static void main(String[] args) {
        newMask();
        feathersAroundARectangle();
        rectanglesOverTheEdges();
        gradients();
        luminosityAtItsEnds();
        circles();
        dabsTogether();
        invertedMasks();
        parametersOfKinds();
        kindsAfterKinds();
        whatStaysWithTheMask();
        feathersAtTheirEnds();
        inversions();
        dabsUntilFull();
        wrongDabs();
        changesRemoveTiles();
        pixelsOfMaskValue();
        Check.end();
    }

    private static AdjustmentStack made(String calls) {
        AdjustmentStack x = new AdjustmentStack();
        Call.makeAll(x, calls);
        return x;
    }

    private static void value(AdjustmentStack x, String what, int column, int row, int due) {
        Check.due(what + ": maskValue(0, " + column + ", " + row + ")", x.maskValue(0, column, row), due);
    }

    private static void newMask() {
        Check.description("Masks: the mask of a new layer");
        AdjustmentStack x = made("newImage 4 16, addLayer 4 0 0");
        value(x, "kind none", 0, 0, 255);
        value(x, "kind none", 3, 15, 255);
        Check.due("the kind", x.layer(0, 7), 0);
        Check.due("no dabs", x.layer(0, 8), 0);
        Check.due("not inverted", x.invertMask(0), 1);
        Check.due("the feather", x.setFeather(0, 5), 0);
    }

    /** The values at each distance from a rectangle of one pixel, in all directions. */
    private static void feathersAroundARectangle() {
        Check.description("Masks: rectangle, g from 0 to the feather and beyond");
        for (int feather = 0; feather <= 5; feather++) {
            AdjustmentStack x = made("newImage 16 16, addLayer 4 0 0, setMask 0 1 8 7 8 7, setFeather 0 " + feather);
            for (int row = 0; row < 16; row++) {
                for (int column = 0; column < 16; column++) {
                    int g = Math.max(Math.abs(column - 8), Math.abs(row - 7));
                    int due = g == 0 ? 255 : g <= feather ? 255 * (feather + 1 - g) / (feather + 1) : 0;
                    value(x, "feather " + feather, column, row, due);
                }
            }
        }
        AdjustmentStack x = made("newImage 16 16, addLayer 4 0 0, setMask 0 1 3 4 10 8, setFeather 0 2");
        int[][] due = {{3, 4, 255}, {10, 8, 255}, {10, 4, 255}, {3, 8, 255}, {2, 4, 170}, {11, 8, 170}, {3, 3, 170},
            {10, 9, 170}, {1, 4, 85}, {12, 8, 85}, {6, 2, 85}, {6, 10, 85}, {0, 6, 0}, {13, 6, 0}, {6, 1, 0}, {6, 11, 0},
            {11, 9, 170}, {12, 9, 85}, {11, 10, 85}, {12, 10, 85}, {13, 9, 0}, {11, 11, 0}, {2, 2, 85}, {1, 1, 0}};
        for (int[] each : due) {
            value(x, "columns 3 to 10, rows 4 to 8, feather 2", each[0], each[1], each[2]);
        }
    }

    private static void rectanglesOverTheEdges() {
        Check.description("Masks: rectangles that lie partly or wholly outside of the image");
        AdjustmentStack x = made("newImage 4 4, addLayer 4 0 0, setMask 0 1 0 0 15 15");
        value(x, "everywhere", 0, 0, 255);
        value(x, "everywhere", 3, 3, 255);
        Call.makeAll(x, "setMask 0 1 3 2 15 15");
        value(x, "partly outside", 3, 2, 255);
        value(x, "partly outside", 3, 1, 0);
        value(x, "partly outside", 2, 3, 0);
        Call.makeAll(x, "setMask 0 1 4 4 15 15");
        value(x, "just outside, feather 0", 3, 3, 0);
        Call.makeAll(x, "setFeather 0 1");
        value(x, "just outside, feather 1", 3, 3, 127);
        value(x, "just outside, feather 1", 2, 3, 0);
        Call.makeAll(x, "setMask 0 1 8 8 8 8, setFeather 0 5");
        value(x, "5 away", 3, 3, 42);
        value(x, "6 away", 2, 3, 0);
        value(x, "6 away", 3, 2, 0);
        Call.makeAll(x, "setMask 0 1 15 15 15 15");
        value(x, "12 away", 3, 3, 0);
        Call.makeAll(x, "newImage 16 16");
        value(x, "the last pixel", 15, 15, 255);
        value(x, "5 away from it", 10, 15, 42);
    }

    private static void gradients() {
        Check.description("Masks: gradient");
        AdjustmentStack x = made("newImage 16 4, addLayer 4 0 0");
        int[][] ends = {{0, 15}, {0, 1}, {14, 15}, {0, 14}, {1, 15}, {7, 8}, {5, 7}, {2, 9}};
        for (int[] each : ends) {
            int c = each[0];
            int e = each[1];
            Call.makeAll(x, "setMask 0 2 " + c + " 0 " + e + " 0");
            for (int column = 0; column < 16; column++) {
                int due = column <= c ? 0 : column >= e ? 255 : 255 * (column - c) / (e - c);
                value(x, "from " + c + " to " + e, column, 3, due);
            }
        }
        Call.makeAll(x, "newImage 4 4, setMask 0 2 3 0 15 0");
        value(x, "beginning at the last column", 3, 0, 0);
        Call.makeAll(x, "setMask 0 2 2 0 15 0, setFeather 0 5");
        value(x, "ending outside of the image", 3, 0, 255 / 13);
    }

    private static void luminosityAtItsEnds() {
        Check.description("Masks: luminosity");
        AdjustmentStack x = made("setPixel 1 1 255, setPixel 2 1 0, setPixel 3 1 1, addLayer 12 100 0, "
            + "setMask 0 3 0 0 0 0");
        value(x, "of 255", 1, 1, 255);
        value(x, "of 0", 2, 1, 0);
        value(x, "of 1", 3, 1, 1);
        Check.due("output of 255", x.pixel(0, 1, 1), 100);
        Check.due("output of 0", x.pixel(0, 2, 1), 0);
        Check.due("output of 1", x.pixel(0, 3, 1), 1);
        Call.makeAll(x, "setMask 0 0 0 0 0 0, addLayer 4 0 0, moveLayer 1 0, setMask 1 3 0 0 0 0");
        Check.due("of the output below, 255 inverted", x.maskValue(1, 1, 1), 0);
        Check.due("of the output below, 0 inverted", x.maskValue(1, 2, 1), 255);
        Call.makeAll(x, "setEnabled 0 0");
        Check.due("of the base image, as the layer below is not enabled", x.maskValue(1, 1, 1), 255);
        Call.makeAll(x, "setEnabled 1 0");
        Check.due("of a layer that is not enabled itself", x.maskValue(1, 3, 1), 1);
    }

    /** A dab of each radius, in the middle and in the corners of an image. */
    private static void circles() {
        Check.description("Masks: brush, a square of the distance of at most R * R");
        int[][] centres = {{0, 0}, {15, 15}, {7, 8}, {0, 15}};
        for (int[] each : centres) {
            for (int radius = 0; radius <= 8; radius++) {
                AdjustmentStack x = made("newImage 16 16, addLayer 4 0 0, dab 0 " + each[0] + " " + each[1] + " " + radius);
                for (int row = 0; row < 16; row++) {
                    for (int column = 0; column < 16; column++) {
                        int square = (column - each[0]) * (column - each[0]) + (row - each[1]) * (row - each[1]);
                        value(x, "radius " + radius, column, row, square <= radius * radius ? 255 : 0);
                    }
                }
            }
        }
        AdjustmentStack x = made("newImage 4 4, addLayer 4 0 0, dab 0 8 3 5");
        value(x, "a centre outside of the image, 5 away", 3, 3, 255);
        value(x, "more than 5 away", 3, 2, 0);
        value(x, "6 away", 2, 3, 0);
        Call.makeAll(x, "dab 0 15 15 8");
        value(x, "far away", 3, 2, 0);
    }

    private static void dabsTogether() {
        Check.description("Masks: brush, one dab is enough");
        AdjustmentStack x = made("addLayer 4 0 0, setMask 0 4 0 0 0 0");
        value(x, "no dabs", 0, 0, 0);
        for (int i = 0; i < 6; i++) {
            x.dab(0, i, i, 0);
            for (int j = 0; j < 8; j++) {
                value(x, i + 1 + " dabs", j, j, j <= i ? 255 : 0);
            }
        }
        value(x, "besides", 0, 1, 0);
        x = made("addLayer 4 0 0, dab 0 3 3 2, dab 0 3 3 1");
        value(x, "a smaller dab in a greater one", 3, 1, 255);
    }

    private static void invertedMasks() {
        Check.description("Masks: an inverted mask is 255 minus the value");
        String[] masks = {"setMask 0 0 0 0 0 0", "setMask 0 1 2 2 4 4", "setMask 0 2 1 0 6 0", "setMask 0 3 0 0 0 0",
            "dab 0 4 4 2"};
        for (String mask : masks) {
            AdjustmentStack plain = made("addLayer 4 0 0, setFeather 0 2, " + mask);
            AdjustmentStack inverted = made("addLayer 4 0 0, setFeather 0 2, " + mask + ", invertMask 0");
            for (int i = 0; i < 64; i++) {
                value(inverted, mask, i % 8, i / 8, 255 - plain.maskValue(0, i % 8, i / 8));
            }
        }
    }

    private static void maskIs(AdjustmentStack x, boolean possible, int... mask) {
        int previous = x.layer(0, 7);
        Check.due("setMask " + java.util.Arrays.toString(mask),
            x.setMask(0, mask[0], mask[1], mask[2], mask[3], mask[4]), possible ? previous : INVALID);
        Check.due("the kind then", x.layer(0, 7), possible ? mask[0] : previous);
    }

    private static void parametersOfKinds() {
        Check.promise(15, "setMask");
        AdjustmentStack x = made("addLayer 4 0 0");
        int[] noParameters = {0, 3, 4};
        for (int kind : noParameters) {
            maskIs(x, true, kind, 0, 0, 0, 0);
            for (int wrong = -1; wrong <= 1; wrong += 2) {
                maskIs(x, false, kind, wrong, 0, 0, 0);
                maskIs(x, false, kind, 0, wrong, 0, 0);
                maskIs(x, false, kind, 0, 0, wrong, 0);
                maskIs(x, false, kind, 0, 0, 0, wrong);
            }
        }
        int[][] possible = {{1, 0, 0, 0, 0}, {1, 15, 15, 15, 15}, {1, 0, 0, 15, 15}, {1, 7, 0, 7, 15}, {1, 0, 7, 15, 7},
            {2, 0, 0, 1, 0}, {2, 14, 0, 15, 0}, {2, 0, 0, 15, 0}};
        for (int[] each : possible) {
            maskIs(x, true, each);
        }
        int[][] wrong = {{1, -1, 0, 0, 0}, {1, 0, -1, 0, 0}, {1, 16, 0, 16, 0}, {1, 0, 16, 0, 16}, {1, 0, 0, 16, 0},
            {1, 0, 0, 0, 16}, {1, 1, 0, 0, 0}, {1, 0, 1, 0, 0}, {1, 15, 0, 14, 15}, {1, 0, 15, 15, 14}, {1, 0, 0, -1, 0},
            {1, 0, 0, 0, -1}, {2, -1, 0, 0, 0}, {2, 0, 0, 0, 0}, {2, 1, 0, 0, 0}, {2, 14, 0, 14, 0}, {2, 15, 0, 15, 0},
            {2, 15, 0, 16, 0}, {2, 0, 0, 16, 0}, {2, 0, 1, 1, 0}, {2, 0, 0, 1, 1}, {2, 0, -1, 1, 0}, {2, 0, 0, 1, -1},
            {-1, 0, 0, 0, 0}, {5, 0, 0, 0, 0}};
        for (int[] each : wrong) {
            maskIs(x, false, each);
        }
        Check.due("of the layer 1", x.setMask(1, 0, 0, 0, 0, 0), INVALID);
        Check.due("of the layer -1", x.setMask(-1, 0, 0, 0, 0, 0), INVALID);
        Check.due("of no layer in a new object", new AdjustmentStack().setMask(0, 0, 0, 0, 0, 0), INVALID);
        Check.due("states are saved", x.undo(), 5);
    }

    private static void kindsAfterKinds() {
        Check.promise(15, "setMask");
        String[] masks = {"0 0 0 0 0", "1 1 2 3 4", "2 1 0 5 0", "3 0 0 0 0", "4 0 0 0 0"};
        AdjustmentStack x = made("addLayer 4 0 0");
        int previous = 0;
        for (int first = 0; first < 5; first++) {
            for (int second = 0; second < 5; second++) {
                Check.due("setMask", Call.of("setMask 0 " + masks[first]).on(x), previous);
                Check.due("setMask", Call.of("setMask 0 " + masks[second]).on(x), first);
                previous = second;
            }
        }
        Call.makeAll(x, "setMask 0 1 1 2 3 4");
        Check.due("a wrong rectangle", x.setMask(0, 1, 1, 2, 0, 4), INVALID);
        value(x, "the rectangle stays", 1, 2, 255);
        value(x, "the rectangle stays", 0, 2, 0);
    }

    private static void whatStaysWithTheMask() {
        Check.promise(15, "setMask");
        AdjustmentStack x = made("addLayer 4 0 0, setFeather 0 4, dab 0 3 3 1, invertMask 0");
        for (int kind = 0; kind <= 4; kind++) {
            Call.makeAll(x, "setMask 0 " + kind + (kind == 1 ? " 0 0 2 7" : kind == 2 ? " 2 0 7 0" : " 0 0 0 0"));
            Check.due("dabs", x.layer(0, 8), 1);
            int[] inverted = {0, 255 - 204, 255 - 51, 255 - (51 + 29), 255};
            value(x, "kind " + kind + ", inverted", 3, 1, inverted[kind]);
        }
        value(x, "the dab", 3, 3, 0);
        Check.due("the feather", x.setFeather(0, 4), 4);
        Check.due("inverted", x.invertMask(0), 0);
    }

    private static void feathersAtTheirEnds() {
        Check.promise(16, "setFeather");
        AdjustmentStack x = made("addLayer 4 0 0, addLayer 4 0 0");
        for (int feather = 0; feather <= 5; feather++) {
            Check.due("setFeather(1, " + feather + ")", x.setFeather(1, feather), Math.max(0, feather - 1));
        }
        Check.due("setFeather(1, 6)", x.setFeather(1, 6), INVALID);
        Check.due("setFeather(1, -1)", x.setFeather(1, -1), INVALID);
        Check.due("setFeather(2, 0)", x.setFeather(2, 0), INVALID);
        Check.due("setFeather(-1, 0)", x.setFeather(-1, 0), INVALID);
        Check.due("the same again is saved", x.setFeather(1, 5), 5);
        Check.due("the other layer", x.setFeather(0, 1), 0);
        Check.due("undo()", x.undo(), 5);
        Check.due("undo()", x.undo(), 4);
        Check.due("undo()", x.undo(), 3);
        Check.due("the feather again", x.setFeather(1, 0), 4);
        Check.due("no feather in a new object", new AdjustmentStack().setFeather(0, 0), INVALID);
    }

    private static void inversions() {
        Check.promise(17, "invertMask");
        AdjustmentStack x = made("addLayer 4 0 0, addLayer 4 0 0");
        for (int i = 1; i <= 5; i++) {
            Check.due("invertMask(0), time " + i, x.invertMask(0), i % 2);
        }
        Check.due("the other layer", x.invertMask(1), 1);
        Check.due("invertMask(2)", x.invertMask(2), INVALID);
        Check.due("invertMask(-1)", x.invertMask(-1), INVALID);
        Check.due("of a new object", new AdjustmentStack().invertMask(0), INVALID);
        Check.due("undo()", x.undo(), 5);
        Check.due("undo()", x.undo(), 4);
        Check.due("inverted back", x.invertMask(0), 1);
    }

    private static void dabsUntilFull() {
        Check.promise(18, "dab");
        AdjustmentStack x = made("addLayer 4 0 0, addLayer 4 0 0, setMask 0 1 0 0 7 7");
        int[][] dabs = {{0, 0, 0}, {15, 15, 8}, {0, 15, 0}, {15, 0, 8}, {7, 7, 0}, {7, 7, 0}};
        for (int i = 0; i < dabs.length; i++) {
            Check.due("dab " + (i + 1), x.dab(0, dabs[i][0], dabs[i][1], dabs[i][2]), i + 1);
            Check.due("the kind of the mask", x.layer(0, 7), 4);
        }
        Check.due("a seventh dab", x.dab(0, 0, 0, 0), FULL);
        Check.due("the first dab", x.maskValue(0, 0, 0), 255);
        Check.due("beside it", x.maskValue(0, 1, 0), 0);
        Check.due("the sixth dab", x.maskValue(0, 7, 7), 255);
        Check.due("the other layer has room", x.dab(1, 0, 0, 0), 1);
        Check.due("a copy", x.duplicateLayer(0), 1);
        Check.due("a copy has no room either", x.dab(1, 0, 0, 0), FULL);
        Check.due("undo()", x.undo(), 5);
        Check.due("undo()", x.undo(), 4);
        Check.due("undo()", x.undo(), 3);
        Check.due("room again", x.dab(0, 0, 0, 0), 6);
        Call.makeAll(x, "setMask 0 0 0 0 0 0");
        Check.due("no room, though the kind is another", x.dab(0, 0, 0, 0), FULL);
        Check.due("the kind stays", x.layer(0, 7), 0);
    }

    private static void wrongDabs() {
        Check.promise(18, "dab");
        AdjustmentStack x = made("addLayer 4 0 0, prefetch 0");
        int[][] wrong = {{1, 0, 0, 0}, {-1, 0, 0, 0}, {0, -1, 0, 0}, {0, 16, 0, 0}, {0, 0, -1, 0}, {0, 0, 16, 0},
            {0, 0, 0, -1}, {0, 0, 0, 9}};
        for (int full = 0; full <= 1; full++) {
            for (int[] each : wrong) {
                Check.due("dab(" + each[0] + ", " + each[1] + ", " + each[2] + ", " + each[3] + ")",
                    x.dab(each[0], each[1], each[2], each[3]), INVALID);
            }
            Check.due("the number of dabs", x.layer(0, 8), 6 * full);
            Check.due("the kind of the mask", x.layer(0, 7), 0);
            Check.due("the tiles", x.cachedTiles(0), 4);
            for (int i = 0; i < 6 && full == 0; i++) {
                x.dab(0, 15, 15, 0);
            }
            Call.makeAll(x, "setMask 0 0 0 0 0 0, prefetch 0");
        }
        Check.due("a new object", new AdjustmentStack().dab(0, 0, 0, 0), INVALID);
    }

    private static void changesRemoveTiles() {
        String[] changes = {"setMask % 0 0 0 0 0", "setFeather % 0", "invertMask %", "dab % 15 15 0"};
        for (int i = 0; i < changes.length; i++) {
            Check.promise(15 + i, changes[i].split(" ")[0]);
            for (int layer = 0; layer < 3; layer++) {
                AdjustmentStack x = made("addLayer 4 0 0, addLayer 4 0 0, addLayer 4 0 0, prefetch 2, "
                    + changes[i].replace("%", "" + layer));
                for (int other = 0; other < 3; other++) {
                    Check.due("tiles of layer " + other + " after a change of " + layer, x.cachedTiles(other),
                        other < layer ? 4 : 0);
                }
                Check.due("dropped", x.counter(2), 0);
                Check.due("undo()", x.undo(), 3);
            }
        }
    }

    private static void pixelsOfMaskValue() {
        Check.promise(19, "maskValue");
        Check.due("a new object", new AdjustmentStack().maskValue(0, 0, 0), INVALID);
        AdjustmentStack x = made("newImage 16 4, addLayer 6 3 0, addLayer 13 0 0, setMask 1 3 0 0 0 0");
        int[][] outside = {{1, 16, 0}, {1, 0, 4}, {1, -1, 0}, {1, 0, -1}, {2, 0, 0}, {-1, 0, 0}};
        for (int[] each : outside) {
            Check.due("maskValue(" + each[0] + ", " + each[1] + ", " + each[2] + ")",
                x.maskValue(each[0], each[1], each[2]), INVALID);
        }
        Check.due("maskValue(0, 15, 3)", x.maskValue(0, 15, 3), 255);
        Check.due("maskValue(1, 0, 0), a blur over 16 pixels", x.maskValue(1, 0, 0), (24 * 17 + 24 * 29) / 16);
        Check.due("nothing is computed", x.counter(0), 0);
        Check.due("nothing is cached", x.oldestTile(), AdjustmentStack.NONE);
    }
}
