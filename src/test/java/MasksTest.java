/** Promises 15 to 19: masks. */
final class MasksTest {
    private static final int INVALID = AdjustmentStack.INVALID_ARGUMENT;

    private MasksTest() {
    }

    public static void main(String[] args) {
        setMask();
        wrongMasks();
        rectangle();
        gradient();
        luminosity();
        setFeather();
        invertMask();
        dab();
        maskValue();
        maskedOutput();
        Check.end();
    }

    private static AdjustmentStack inverted() {
        AdjustmentStack x = new AdjustmentStack();
        x.addLayer(4, 0, 0);
        return x;
    }

    /** A layer whose tiles, and those of the layer below, are cached. */
    private static AdjustmentStack two() {
        AdjustmentStack x = inverted();
        x.addLayer(4, 0, 0);
        x.prefetch(1);
        return x;
    }

    private static void checkTilesAndUndo(String call, AdjustmentStack x) {
        Check.due("tiles below after " + call, x.cachedTiles(0), 4);
        Check.due("tiles after " + call, x.cachedTiles(1), 0);
        Check.due("undo after " + call, x.undo(), 2);
    }

    private static void setMask() {
        Check.promise(15, "setMask");
        AdjustmentStack x = inverted();
        Check.due("setMask(0, 1, ..)", x.setMask(0, 1, 2, 3, 4, 5), 0);
        Check.due("setMask(0, 2, ..)", x.setMask(0, 2, 0, 0, 15, 0), 1);
        Check.due("setMask(0, 3, ..)", x.setMask(0, 3, 0, 0, 0, 0), 2);
        Check.due("setMask(0, 4, ..)", x.setMask(0, 4, 0, 0, 0, 0), 3);
        Check.due("a brush without dabs", x.maskValue(0, 0, 0), 0);
        Check.due("setMask(0, 0, ..)", x.setMask(0, 0, 0, 0, 0, 0), 4);
        Check.due("maskValue(0, 0, 0)", x.maskValue(0, 0, 0), 255);
        x.dab(0, 3, 3, 0);
        x.setFeather(0, 5);
        x.invertMask(0);
        Check.due("setMask(0, 0, ..)", x.setMask(0, 0, 0, 0, 0, 0), 4);
        Check.due("dabs stay", x.layer(0, 8), 1);
        Check.due("inversion stays", x.maskValue(0, 0, 0), 0);
        x.setMask(0, 4, 0, 0, 0, 0);
        Check.due("the dab again", x.maskValue(0, 3, 3), 0);
        Check.due("beside the dab", x.maskValue(0, 3, 4), 255);
        Check.due("feather stays", x.setFeather(0, 0), 5);
        AdjustmentStack y = two();
        y.setMask(1, 3, 0, 0, 0, 0);
        checkTilesAndUndo("setMask", y);
        Check.due("mask after undo", y.layer(1, 7), 0);
    }

    private static void wrongMasks() {
        Check.promise(15, "setMask");
        AdjustmentStack x = inverted();
        int[][] wrong = {{1, 0, 0, 0, 0, 0}, {-1, 0, 0, 0, 0, 0}, {0, -1, 0, 0, 0, 0}, {0, 5, 0, 0, 0, 0},
            {0, 0, 1, 0, 0, 0}, {0, 0, 0, 1, 0, 0}, {0, 0, 0, 0, 1, 0}, {0, 0, 0, 0, 0, 1},
            {0, 3, 1, 0, 0, 0}, {0, 3, 0, 0, 0, -1}, {0, 4, 0, 0, 1, 0}, {0, 4, 0, 1, 0, 0},
            {0, 1, -1, 0, 0, 0}, {0, 1, 0, -1, 0, 0}, {0, 1, 0, 0, 16, 0}, {0, 1, 0, 0, 0, 16}, {0, 1, 3, 0, 2, 0},
            {0, 1, 0, 3, 0, 2}, {0, 1, 16, 0, 16, 0}, {0, 2, -1, 0, 5, 0}, {0, 2, 15, 0, 16, 0}, {0, 2, 5, 0, 5, 0},
            {0, 2, 5, 0, 4, 0}, {0, 2, 5, 0, 16, 0}, {0, 2, 5, 1, 6, 0}, {0, 2, 5, 0, 6, 1},
            {0, 2, Integer.MAX_VALUE, 0, Integer.MIN_VALUE, 0}};
        for (int[] each : wrong) {
            Check.due("wrong setMask " + java.util.Arrays.toString(each),
                x.setMask(each[0], each[1], each[2], each[3], each[4], each[5]), INVALID);
        }
        Check.due("nothing is saved", x.undo(), 0);
        AdjustmentStack y = inverted();
        Check.due("the greatest rectangle", y.setMask(0, 1, 0, 0, 15, 15), 0);
        Check.due("the last pixel", y.setMask(0, 1, 15, 15, 15, 15), 1);
        Check.due("the last gradient", y.setMask(0, 2, 14, 0, 15, 0), 1);
    }

    private static void rectangle() {
        Check.description("Masks");
        AdjustmentStack x = new AdjustmentStack();
        x.newImage(16, 16);
        x.addLayer(4, 0, 0);
        x.setMask(0, 1, 5, 6, 8, 7);
        Check.due("inside", x.maskValue(0, 5, 6), 255);
        Check.due("inside, last", x.maskValue(0, 8, 7), 255);
        Check.due("left", x.maskValue(0, 4, 6), 0);
        Check.due("right", x.maskValue(0, 9, 6), 0);
        Check.due("above", x.maskValue(0, 5, 5), 0);
        Check.due("below", x.maskValue(0, 5, 8), 0);
        x.setFeather(0, 3);
        Check.due("1 left", x.maskValue(0, 4, 6), 191);
        Check.due("2 above, 1 right", x.maskValue(0, 9, 4), 127);
        Check.due("3 below", x.maskValue(0, 6, 10), 63);
        Check.due("4 below", x.maskValue(0, 6, 11), 0);
        Check.due("3 right, 3 below", x.maskValue(0, 11, 10), 63);
        x.setFeather(0, 5);
        Check.due("5 left", x.maskValue(0, 0, 6), 42);
        x.newImage(4, 4);
        Check.due("a rectangle outside of the image", x.maskValue(0, 3, 3), 127);
        Check.due("far from it", x.maskValue(0, 3, 0), 0);
    }

    private static void gradient() {
        Check.description("Masks");
        AdjustmentStack x = inverted();
        x.setMask(0, 2, 2, 0, 5, 0);
        int[] want = {0, 0, 0, 85, 170, 255, 255, 255};
        for (int column = 0; column < want.length; column++) {
            Check.due("gradient at " + column, x.maskValue(0, column, 3), want[column]);
        }
        x.setMask(0, 2, 0, 0, 4, 0);
        Check.due("gradient rounds down", x.maskValue(0, 1, 0), 63);
        x.setFeather(0, 5);
        Check.due("a gradient has no feather", x.maskValue(0, 1, 0), 63);
    }

    private static void luminosity() {
        Check.description("Masks");
        AdjustmentStack x = inverted();
        x.addLayer(1, 20, 0);
        x.setMask(0, 3, 0, 0, 0, 0);
        Check.due("luminosity of the base image", x.maskValue(0, 1, 1), 46);
        x.setMask(1, 3, 0, 0, 0, 0);
        int below = 46 + Math.floorDiv((255 - 46 - 46) * 100 * 46, 25500);
        Check.due("luminosity of the layer below", x.maskValue(1, 1, 1), below);
        x.setEnabled(0, 0);
        Check.due("luminosity of a layer that is not enabled", x.maskValue(1, 1, 1), 46);
        Check.due("of a mask of a layer that is not enabled", x.maskValue(0, 1, 1), 46);
        x.invertMask(1);
        Check.due("inverted luminosity", x.maskValue(1, 1, 1), 209);
        Check.due("no tile is computed", x.counter(0), 0);
    }

    private static void setFeather() {
        Check.promise(16, "setFeather");
        AdjustmentStack x = inverted();
        Check.due("setFeather(0, 5)", x.setFeather(0, 5), 0);
        Check.due("setFeather(0, 0)", x.setFeather(0, 0), 5);
        Check.due("setFeather(0, 6)", x.setFeather(0, 6), INVALID);
        Check.due("setFeather(0, -1)", x.setFeather(0, -1), INVALID);
        Check.due("setFeather(1, 0)", x.setFeather(1, 0), INVALID);
        Check.due("setFeather(-1, 0)", x.setFeather(-1, 0), INVALID);
        Check.due("setFeather(0, 1)", x.setFeather(0, 1), 0);
        AdjustmentStack y = two();
        y.setFeather(1, 2);
        checkTilesAndUndo("setFeather", y);
        Check.due("feather after undo", y.setFeather(1, 1), 0);
    }

    private static void invertMask() {
        Check.promise(17, "invertMask");
        AdjustmentStack x = inverted();
        Check.due("invertMask(0)", x.invertMask(0), 1);
        Check.due("maskValue(0, 1, 1)", x.maskValue(0, 1, 1), 0);
        Check.due("pixel(0, 1, 1)", x.pixel(0, 1, 1), 46);
        Check.due("invertMask(0) again", x.invertMask(0), 0);
        Check.due("maskValue(0, 1, 1) then", x.maskValue(0, 1, 1), 255);
        Check.due("invertMask(1)", x.invertMask(1), INVALID);
        Check.due("invertMask(-1)", x.invertMask(-1), INVALID);
        AdjustmentStack y = two();
        y.invertMask(1);
        checkTilesAndUndo("invertMask", y);
        Check.due("invertMask after undo", y.invertMask(1), 1);
    }

    private static void dab() {
        Check.promise(18, "dab");
        AdjustmentStack x = new AdjustmentStack();
        x.newImage(16, 16);
        x.addLayer(4, 0, 0);
        x.setMask(0, 1, 1, 2, 3, 4);
        Check.due("dab(0, 8, 8, 5)", x.dab(0, 8, 8, 5), 1);
        Check.due("kind of the mask", x.layer(0, 7), 4);
        Check.due("3, 4 away", x.maskValue(0, 11, 4), 255);
        Check.due("4, 4 away", x.maskValue(0, 12, 4), 0);
        Check.due("5 away", x.maskValue(0, 3, 8), 255);
        Check.due("6 away", x.maskValue(0, 8, 14), 0);
        Check.due("dab(0, 15, 15, 0)", x.dab(0, 15, 15, 0), 2);
        Check.due("its centre", x.maskValue(0, 15, 15), 255);
        Check.due("beside it", x.maskValue(0, 14, 15), 0);
        Check.due("the first dab still", x.maskValue(0, 8, 8), 255);
        int[][] wrong = {{1, 0, 0, 0}, {-1, 0, 0, 0}, {0, -1, 0, 0}, {0, 16, 0, 0}, {0, 0, -1, 0}, {0, 0, 16, 0},
            {0, 0, 0, -1}, {0, 0, 0, 9}};
        for (int[] each : wrong) {
            Check.due("wrong dab", x.dab(each[0], each[1], each[2], each[3]), INVALID);
        }
        for (int i = 3; i <= 6; i++) {
            Check.due("dab " + i, x.dab(0, i - 3, 15, 0), i);
            Check.due("centre of dab " + i, x.maskValue(0, i - 3, 15), 255);
        }
        Check.due("beside the sixth dab", x.maskValue(0, 4, 15), 0);
        x.setMask(0, 0, 0, 0, 0, 0);
        Check.due("a seventh dab", x.dab(0, 0, 0, 0), AdjustmentStack.CAPACITY_EXCEEDED);
        Check.due("a wrong seventh dab", x.dab(0, 0, 0, 9), INVALID);
        Check.due("the kind stays", x.layer(0, 7), 0);
        AdjustmentStack y = two();
        y.dab(1, 2, 2, 2);
        checkTilesAndUndo("dab", y);
        Check.due("dabs after undo", y.layer(1, 8), 0);
        Check.due("kind after undo", y.layer(1, 7), 0);
    }

    private static void maskValue() {
        Check.promise(19, "maskValue");
        AdjustmentStack x = inverted();
        int[][] wrong = {{1, 0, 0}, {-1, 0, 0}, {0, -1, 0}, {0, 8, 0}, {0, 0, -1}, {0, 0, 8}};
        for (int[] each : wrong) {
            Check.due("wrong maskValue", x.maskValue(each[0], each[1], each[2]), INVALID);
        }
        Check.due("maskValue(0, 7, 7)", x.maskValue(0, 7, 7), 255);
        Check.due("counter(0)", x.counter(0), 0);
        Check.due("oldestTile()", x.oldestTile(), AdjustmentStack.NONE);
    }

    private static void maskedOutput() {
        Check.description("Layers");
        AdjustmentStack x = inverted();
        x.setMask(0, 2, 0, 0, 5, 0);
        x.setBlend(0, 0, 40);
        int v = 17 * 3;
        Check.due("opacity and mask", x.pixel(0, 3, 0), v + Math.floorDiv((255 - v - v) * 40 * 153, 25500));
        v = 17 * 4 + 29 * 6;
        Check.due("opacity and mask, darker", x.pixel(0, 4, 6), v + Math.floorDiv((255 - v - v) * 40 * 204, 25500));
        Check.due("outside of the mask", x.pixel(0, 0, 6), 29 * 6);
    }
}
