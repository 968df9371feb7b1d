/** Promises 32 to 37: the boundary cases of questions about the whole image. */
final class WholeImageBoundariesTest {
    private static final int INVALID = AdjustmentStack.INVALID_ARGUMENT;
    private static final int ILLEGAL = AdjustmentStack.ILLEGAL_STATE;
    private static final int NONE = AdjustmentStack.NONE;

    private WholeImageBoundariesTest() {
    }

    public static void main(String[] args) {
        rangesOfValues();
        layersOfHistogram();
        leastAndGreatestSums();
        layersOfSum();
        leastAndGreatestEffects();
        effectsOnTheTopLayer();
        strongestOfNoneToEight();
        strongestOfEqualOnes();
        exchangesOfNoneToEight();
        exchangesWithMasks();
        slotsOfSnapshots();
        sizesOfSnapshots();
        fewestAndMostDifferentPixels();
        afterAGreaterImage();
        cacheAndCountersStay();
        Check.end();
    }

    private static AdjustmentStack made(String calls) {
        AdjustmentStack x = new AdjustmentStack();
        Call.makeAll(x, calls);
        return x;
    }

    private static void rangesOfValues() {
        Check.promise(32, "histogram");
        AdjustmentStack x = made("newImage 16 16, fillRectangle 0 0 16 16 7, setPixel 0 0 0, setPixel 15 15 255, "
            + "setPixel 1 0 1, setPixel 2 0 254");
        int[][] due = {{0, 255, 256}, {0, 0, 1}, {255, 255, 1}, {1, 254, 254}, {0, 1, 2}, {254, 255, 2}, {7, 7, 252},
            {6, 6, 0}, {8, 8, 0}, {7, 8, 252}, {6, 7, 252}, {2, 253, 252}, {0, 254, 255}, {1, 255, 255}};
        for (int[] each : due) {
            Check.due("histogram(-1, " + each[0] + ", " + each[1] + ")", x.histogram(-1, each[0], each[1]), each[2]);
        }
        int[][] wrong = {{-1, 255}, {-1, -1}, {0, 256}, {255, 256}, {256, 256}, {256, 255}, {1, 0}, {255, 254}, {255, 0},
            {0, -1}, {Integer.MIN_VALUE, Integer.MAX_VALUE}};
        for (int[] each : wrong) {
            Check.due("histogram(-1, " + each[0] + ", " + each[1] + ")", x.histogram(-1, each[0], each[1]), INVALID);
        }
    }

    private static void layersOfHistogram() {
        Check.promise(32, "histogram");
        AdjustmentStack x = new AdjustmentStack();
        Check.due("histogram(0, 0, 255) of a new object", x.histogram(0, 0, 255), INVALID);
        Check.due("histogram(-1, 0, 255) of a new object", x.histogram(-1, 0, 255), 64);
        for (int i = 0; i < 8; i++) {
            x.addLayer(12, 30 * i, 0);
            Check.due("the layer " + i, x.histogram(i, 30 * i, 30 * i), 64);
            Check.due("the layer above it", x.histogram(i + 1, 0, 255), INVALID);
        }
        Check.due("the bottom layer", x.histogram(0, 0, 0), 64);
        Check.due("histogram(-2, 0, 255)", x.histogram(-2, 0, 255), INVALID);
        x.setEnabled(0, 0);
        Check.due("the bottom layer is not enabled", x.histogram(0, 0, 0), x.histogram(-1, 0, 0));
    }

    private static void leastAndGreatestSums() {
        Check.promise(33, "sum");
        AdjustmentStack x = made("newImage 16 16, fillRectangle 0 0 16 16 255, addLayer 12 0 0");
        Check.due("the greatest sum", x.sum(-1), 65280);
        Check.due("the least sum", x.sum(0), 0);
        x.setPixel(15, 15, 254);
        Check.due("one less", x.sum(-1), 65279);
        x.setParameters(0, 1, 0);
        Check.due("one for each pixel", x.sum(0), 256);
        Call.makeAll(x, "newImage 4 4");
        Check.due("of the smallest image", x.sum(-1), 24 * 17 + 24 * 29);
        Check.due("one for each of 16 pixels", x.sum(0), 16);
    }

    private static void layersOfSum() {
        Check.promise(33, "sum");
        AdjustmentStack x = new AdjustmentStack();
        Check.due("sum(0) of a new object", x.sum(0), INVALID);
        Check.due("sum(-2) of a new object", x.sum(-2), INVALID);
        for (int i = 0; i < 8; i++) {
            x.addLayer(12, i, 0);
            Check.due("sum(" + i + ")", x.sum(i), 64 * i);
            Check.due("sum(" + (i + 1) + ")", x.sum(i + 1), INVALID);
        }
        Check.due("sum(0)", x.sum(0), 0);
        Check.due("sum(min)", x.sum(Integer.MIN_VALUE), INVALID);
        Check.due("sum(max)", x.sum(Integer.MAX_VALUE), INVALID);
    }

    private static void leastAndGreatestEffects() {
        Check.promise(34, "effect");
        AdjustmentStack x = made("newImage 16 16, fillRectangle 0 0 16 16 0, addLayer 12 255 0");
        Check.due("the greatest effect", x.effect(0), 65280);
        Call.makeAll(x, "setMask 0 1 15 15 15 15");
        Check.due("on one pixel", x.effect(0), 255);
        Call.makeAll(x, "setBlend 0 0 0");
        Check.due("with the opacity 0", x.effect(0), 0);
        Call.makeAll(x, "setBlend 0 0 100, setMask 0 4 0 0 0 0");
        Check.due("with a brush without dabs", x.effect(0), 0);
        Call.makeAll(x, "invertMask 0");
        Check.due("with its inversion", x.effect(0), 65280);
        Call.makeAll(x, "setEnabled 0 0");
        Check.due("of a layer that is not enabled", x.effect(0), 0);
        Check.due("it stays so", x.layer(0, 5), 0);
        Check.due("effect(1)", x.effect(1), INVALID);
        Check.due("effect(-1)", x.effect(-1), INVALID);
        Check.due("of a new object", new AdjustmentStack().effect(0), INVALID);
    }

    /** Differences are absolute ones, and those of the output of the top layer. */
    private static void effectsOnTheTopLayer() {
        Check.promise(34, "effect");
        AdjustmentStack x = made("fillRectangle 0 0 8 8 100, addLayer 1 20 0, addLayer 1 -50 0, setMask 0 1 0 0 3 7, "
            + "setMask 1 1 3 0 7 7");
        Check.due("of the bottom layer", x.effect(0), 32 * 20);
        Check.due("of the top layer", x.effect(1), 40 * 50);
        Call.makeAll(x, "addLayer 2 0 0");
        Check.due("nothing is left of it in the top layer", x.effect(0), 0);
        Check.due("nor of the other one", x.effect(1), 0);
        Check.due("of the layer that takes them away", x.effect(2), 24 * 8 + 8 * 58 + 32 * 78);
        Call.makeAll(x, "setEnabled 2 0");
        Check.due("the top layer is not enabled", x.effect(1), 40 * 50);
    }

    private static void strongestOfNoneToEight() {
        Check.promise(35, "strongestLayer");
        AdjustmentStack x = new AdjustmentStack();
        Check.due("of a new object", x.strongestLayer(), NONE);
        Call.makeAll(x, "fillRectangle 0 0 8 8 0");
        for (int i = 0; i < 8; i++) {
            x.addLayer(1, 1 + i, 0);
            Check.due("the top one of " + (i + 1), x.strongestLayer(), i);
        }
        for (int i = 7; i > 0; i--) {
            x.setEnabled(i, 0);
            Check.due("the greatest enabled one", x.strongestLayer(), i - 1);
        }
        x.setEnabled(0, 0);
        Check.due("none is enabled", x.strongestLayer(), 0);
        for (int i = 0; i < 8; i++) {
            x.removeLayer(0);
        }
        Check.due("all were removed", x.strongestLayer(), NONE);
    }

    private static void strongestOfEqualOnes() {
        Check.promise(35, "strongestLayer");
        AdjustmentStack x = made("fillRectangle 0 0 8 8 100");
        for (int i = 0; i < 8; i++) {
            x.addLayer(1, i % 2 == 0 ? 5 : -5, 0);
        }
        Check.due("the lowest of equal ones", x.strongestLayer(), 0);
        x.setParameters(0, 4, 0);
        Check.due("the lowest of the others", x.strongestLayer(), 1);
        x.setParameters(7, -6, 0);
        Check.due("the top one", x.strongestLayer(), 7);
        x.setParameters(3, -6, 0);
        Check.due("the lowest of two", x.strongestLayer(), 3);
    }

    private static void exchangesOfNoneToEight() {
        Check.promise(36, "exchangeDifference");
        AdjustmentStack x = new AdjustmentStack();
        Check.due("of a new object", x.exchangeDifference(0), INVALID);
        Call.makeAll(x, "newImage 16 16");
        for (int i = 0; i < 8; i++) {
            x.addLayer(12, i, 0);
            Check.due("the top one of " + (i + 1), x.exchangeDifference(i), INVALID);
            Check.due("the layer -1", x.exchangeDifference(-1), INVALID);
            if (i > 0) {
                Check.due("all pixels", x.exchangeDifference(i - 1), 256);
            }
            for (int below = 0; below < i - 1; below++) {
                Check.due("no pixels", x.exchangeDifference(below), 0);
            }
        }
        int[] wrong = {8, 9, Integer.MAX_VALUE, Integer.MIN_VALUE};
        for (int layer : wrong) {
            Check.due("exchangeDifference(" + layer + ")", x.exchangeDifference(layer), INVALID);
        }
        x.setEnabled(7, 0);
        Check.due("with a layer that is not enabled", x.exchangeDifference(6), 0);
        Check.due("below it", x.exchangeDifference(5), 256);
    }

    private static void exchangesWithMasks() {
        Check.promise(36, "exchangeDifference");
        AdjustmentStack x = made("fillRectangle 0 0 8 8 50, addLayer 12 9 0, addLayer 12 8 0, addLayer 1 1 0");
        Check.due("all pixels", x.exchangeDifference(0), 64);
        Call.makeAll(x, "setMask 0 1 0 0 3 3");
        Check.due("where the bottom mask is", x.exchangeDifference(0), 16);
        Call.makeAll(x, "setMask 1 1 3 3 7 7");
        Check.due("where both masks are", x.exchangeDifference(0), 1);
        Call.makeAll(x, "setMask 1 1 4 4 7 7");
        Check.due("nowhere", x.exchangeDifference(0), 0);
        Check.due("each keeps its mask", x.maskValue(0, 0, 0) - x.maskValue(1, 0, 0), 255);
        Check.due("each keeps its kind", x.layer(0, 1), 1009);
        Call.makeAll(x, "setMask 1 3 0 0 0 0");
        Check.due("of a luminosity of another input", x.exchangeDifference(0), 16);
        Check.due("no state is saved", x.undo(), 5);
    }

    private static void slotsOfSnapshots() {
        Check.promise(37, "snapshotDifference");
        AdjustmentStack x = new AdjustmentStack();
        int[] wrong = {-1, 2, 3, Integer.MIN_VALUE, Integer.MAX_VALUE};
        for (int saved = 0; saved <= 2; saved++) {
            Check.due("slot 0", x.snapshotDifference(0), saved > 0 ? 0 : ILLEGAL);
            Check.due("slot 1", x.snapshotDifference(1), saved > 1 ? 0 : ILLEGAL);
            for (int slot : wrong) {
                Check.due("slot " + slot, x.snapshotDifference(slot), INVALID);
            }
            x.save(Math.min(saved, 1));
        }
    }

    private static void sizesOfSnapshots() {
        Check.promise(37, "snapshotDifference");
        AdjustmentStack x = made("newImage 5 6, save 0");
        int[][] others = {{6, 5}, {5, 5}, {5, 7}, {4, 6}, {6, 6}, {16, 16}, {4, 4}};
        for (int[] other : others) {
            x.newImage(other[0], other[1]);
            Check.due("the size " + other[0] + " by " + other[1], x.snapshotDifference(0), ILLEGAL);
            Check.due("the empty slot", x.snapshotDifference(1), ILLEGAL);
            Check.due("no slot", x.snapshotDifference(2), INVALID);
        }
        Call.makeAll(x, "newImage 5 6");
        Check.due("the same size again", x.snapshotDifference(0), 0);
        Call.makeAll(x, "newImage 8 8, restore 0");
        Check.due("after restore", x.snapshotDifference(0), 0);
    }

    private static void fewestAndMostDifferentPixels() {
        Check.promise(37, "snapshotDifference");
        AdjustmentStack x = made("newImage 16 16, fillRectangle 0 0 16 16 9, save 0, addLayer 12 9 0, save 1");
        Check.due("layers that change nothing, and no layers", x.snapshotDifference(0), 0);
        x.setPixel(15, 15, 8);
        Check.due("a base image that is covered", x.snapshotDifference(0), 0);
        x.setEnabled(0, 0);
        Check.due("one pixel", x.snapshotDifference(0), 1);
        Check.due("one pixel, and layers there", x.snapshotDifference(1), 1);
        Call.makeAll(x, "setEnabled 0 1, setParameters 0 10 0");
        Check.due("all pixels", x.snapshotDifference(0), 256);
        x.removeLayer(0);
        Check.due("the base image, if there are no layers", x.snapshotDifference(0), 1);
        Check.due("the layers of the slot", x.snapshotDifference(1), 1);
        Call.makeAll(x, "fillRectangle 0 0 16 16 10");
        Check.due("all pixels of the base image", x.snapshotDifference(1), 256);
        Check.due("the slot stays", x.restore(1), 1);
        Check.due("its base image", x.sum(-1), 256 * 9);
    }

    /** Questions are about the pixels of the image, not about those of a greater one before it. */
    private static void afterAGreaterImage() {
        String[] questions = {"histogram 1 0 255", "sum 1", "effect 0", "strongestLayer", "exchangeDifference 0",
            "snapshotDifference 0"};
        String[] layers = {"fill 9 opacity 40; brightness 30;", "erode 3 mode difference; sharpen 2 300;"};
        for (int i = 0; i < questions.length; i++) {
            Check.promise(32 + i, "after a greater image");
            for (String text : layers) {
                AdjustmentStack x = made("newImage 16 16");
                Check.load(x, text);
                x.save(0);
                for (String question : questions) {
                    Call.of(question).on(x);
                }
                Call.makeAll(x, "invertMask 1, setBlend 0 7 50");
                x.snapshotDifference(0);
                Call.makeAll(x, "undo, undo, newImage 5 4, save 0, invertMask 1");
                AdjustmentStack fresh = made("newImage 5 4");
                Check.load(fresh, text);
                Call.makeAll(fresh, "save 0, invertMask 1");
                Check.due(questions[i] + " of " + text, Call.of(questions[i]).on(x), Call.of(questions[i]).on(fresh));
            }
        }
    }

    private static void cacheAndCountersStay() {
        String[] questions = {"histogram 3 0 255", "sum 3", "effect 0", "strongestLayer", "exchangeDifference 2",
            "snapshotDifference 0"};
        for (int i = 0; i < questions.length; i++) {
            Check.promise(32 + i, "neither uses nor changes the cache and the counters");
            AdjustmentStack x = made("setCacheLimit 3, addLayer 13 0 0, addLayer 6 3 0, save 0, addLayer 4 0 0, "
                + "addLayer 7 1 0, pixel 2 0 0, pixel 2 7 7");
            int computed = x.counter(0);
            int found = x.counter(1);
            int dropped = x.counter(2);
            Check.due(questions[i] + " is possible", Call.of(questions[i]).on(x) >= 0 ? 1 : 0, 1);
            Check.due("computed", x.counter(0), computed);
            Check.due("found", x.counter(1), found);
            Check.due("dropped", x.counter(2), dropped);
            Check.due("the oldest tile", x.oldestTile(), 11);
            Check.due("the tiles", x.clearCache(), 3);
        }
    }
}
