/** Promises 32 to 37: questions about the whole image. */
final class WholeImageTest {
    private static final int INVALID = AdjustmentStack.INVALID_ARGUMENT;

    private WholeImageTest() {
    }

    public static void main(String[] args) {
        histogram();
        sum();
        effect();
        strongestLayer();
        exchangeDifference();
        snapshotDifference();
        questionsLeaveTheCacheAlone();
        Check.end();
    }

    private static int baseSum() {
        int sum = 0;
        for (int y = 0; y < 8; y++) {
            for (int x = 0; x < 8; x++) {
                sum += (17 * x + 29 * y) % 256;
            }
        }
        return sum;
    }

    private static void histogram() {
        Check.promise(32, "histogram");
        AdjustmentStack x = new AdjustmentStack();
        Check.due("histogram(-1, 0, 255)", x.histogram(-1, 0, 255), 64);
        Check.due("histogram(-1, 0, 0)", x.histogram(-1, 0, 0), 1);
        Check.due("histogram(-1, 17, 29) of 17, 20, 29", x.histogram(-1, 17, 29), 3);
        Check.due("histogram(-1, 18, 28) of 20", x.histogram(-1, 18, 28), 1);
        Check.due("histogram(-1, 21, 28)", x.histogram(-1, 21, 28), 0);
        x.addLayer(5, 100, 0);
        Check.due("histogram(0, 255, 255)", x.histogram(0, 255, 255), x.histogram(-1, 100, 255));
        Check.due("histogram(0, 1, 254)", x.histogram(0, 1, 254), 0);
        x.newImage(4, 16);
        Check.due("histogram of another size", x.histogram(0, 0, 255), 64);
        int[][] wrong = {{-2, 0, 0}, {1, 0, 0}, {0, -1, 0}, {0, 256, 256}, {0, 5, 4}, {0, 0, 256}, {0, 0, -1}};
        for (int[] each : wrong) {
            Check.due("wrong histogram", x.histogram(each[0], each[1], each[2]), INVALID);
        }
    }

    private static void sum() {
        Check.promise(33, "sum");
        AdjustmentStack x = new AdjustmentStack();
        Check.due("sum(-1)", x.sum(-1), baseSum());
        Check.due("sum(0) without layers", x.sum(0), INVALID);
        x.addLayer(4, 0, 0);
        x.addLayer(12, 7, 0);
        Check.due("sum(0)", x.sum(0), 64 * 255 - baseSum());
        Check.due("sum(1)", x.sum(1), 64 * 7);
        x.setEnabled(1, 0);
        Check.due("sum(1) of a layer that is not enabled", x.sum(1), 64 * 255 - baseSum());
        Check.due("sum(2)", x.sum(2), INVALID);
        Check.due("sum(-2)", x.sum(-2), INVALID);
        x.newImage(16, 16);
        x.setEnabled(1, 1);
        x.setParameters(1, 255, 0);
        Check.due("the greatest sum", x.sum(1), 65280);
    }

    private static void effect() {
        Check.promise(34, "effect");
        AdjustmentStack x = new AdjustmentStack();
        Check.due("effect(0) without layers", x.effect(0), INVALID);
        x.fillRectangle(0, 0, 8, 8, 100);
        x.addLayer(1, 30, 0);
        x.addLayer(1, -20, 0);
        x.addLayer(12, 3, 0);
        x.setEnabled(2, 0);
        Check.due("effect(0)", x.effect(0), 64 * 30);
        Check.due("effect(1)", x.effect(1), 64 * 20);
        Check.due("effect(2) of a layer that is not enabled", x.effect(2), 0);
        x.setEnabled(2, 1);
        Check.due("effect(0) below a fill", x.effect(0), 0);
        Check.due("effect(2)", x.effect(2), 64 * 107);
        Check.due("effect(3)", x.effect(3), INVALID);
        Check.due("effect(-1)", x.effect(-1), INVALID);
        Check.due("the layer is enabled still", x.layer(0, 5), 1);
        x.setMask(2, 1, 0, 0, 0, 0);
        Check.due("effect(2) with a mask", x.effect(2), 107);
    }

    private static void strongestLayer() {
        Check.promise(35, "strongestLayer");
        AdjustmentStack x = new AdjustmentStack();
        Check.due("strongestLayer() of none", x.strongestLayer(), AdjustmentStack.NONE);
        x.fillRectangle(0, 0, 8, 8, 100);
        x.addLayer(1, 0, 0);
        Check.due("a layer without effect", x.strongestLayer(), 0);
        x.addLayer(1, 5, 0);
        Check.due("one with effect", x.strongestLayer(), 1);
        x.addLayer(1, -5, 0);
        Check.due("the lowest of two", x.strongestLayer(), 1);
        x.addLayer(1, 6, 0);
        Check.due("the top one", x.strongestLayer(), 3);
        x.setEnabled(3, 0);
        Check.due("without the top one", x.strongestLayer(), 1);
    }

    private static void exchangeDifference() {
        Check.promise(36, "exchangeDifference");
        AdjustmentStack x = new AdjustmentStack();
        Check.due("exchangeDifference(0) without layers", x.exchangeDifference(0), INVALID);
        x.addLayer(4, 0, 0);
        Check.due("exchangeDifference(0) of the top", x.exchangeDifference(0), INVALID);
        x.addLayer(12, 9, 0);
        x.setMask(1, 1, 0, 0, 2, 1);
        Check.due("exchangeDifference(0)", x.exchangeDifference(0), 6);
        Check.due("exchangeDifference(1)", x.exchangeDifference(1), INVALID);
        Check.due("exchangeDifference(-1)", x.exchangeDifference(-1), INVALID);
        Check.due("the layers stay", x.layer(0, 0), 4);
        Check.due("their masks stay", x.layer(0, 7), 0);
        x.addLayer(12, 1, 0);
        Check.due("exchangeDifference(0) below a fill", x.exchangeDifference(0), 0);
        Check.due("exchangeDifference(1)", x.exchangeDifference(1), 6);
        Check.due("exchangeDifference(max)", x.exchangeDifference(Integer.MAX_VALUE), INVALID);
    }

    private static void snapshotDifference() {
        Check.promise(37, "snapshotDifference");
        AdjustmentStack x = new AdjustmentStack();
        Check.due("snapshotDifference(0)", x.snapshotDifference(0), AdjustmentStack.ILLEGAL_STATE);
        Check.due("snapshotDifference(2)", x.snapshotDifference(2), INVALID);
        Check.due("snapshotDifference(-1)", x.snapshotDifference(-1), INVALID);
        x.save(0);
        Check.due("no difference", x.snapshotDifference(0), 0);
        x.setPixel(0, 0, 1);
        x.setPixel(1, 0, 17);
        Check.due("one pixel", x.snapshotDifference(0), 1);
        Check.due("the other slot", x.snapshotDifference(1), AdjustmentStack.ILLEGAL_STATE);
        x.addLayer(12, 17, 0);
        Check.due("all but one", x.snapshotDifference(0), 63);
        x.save(1);
        x.setMask(0, 1, 0, 0, 0, 7);
        Check.due("outside of a mask", x.snapshotDifference(1), 55);
        x.newImage(8, 9);
        Check.due("another height", x.snapshotDifference(1), AdjustmentStack.ILLEGAL_STATE);
        x.newImage(9, 8);
        Check.due("another width", x.snapshotDifference(1), AdjustmentStack.ILLEGAL_STATE);
        x.newImage(8, 8);
        Check.due("the same size again", x.snapshotDifference(1), 55);
    }

    private static void questionsLeaveTheCacheAlone() {
        Check.description("Errors");
        AdjustmentStack x = new AdjustmentStack();
        x.addLayer(4, 0, 0);
        x.addLayer(6, 1, 0);
        x.addLayer(13, 0, 0);
        x.save(0);
        x.pixel(1, 0, 0);
        x.histogram(2, 0, 9);
        x.sum(2);
        x.effect(0);
        x.strongestLayer();
        x.exchangeDifference(0);
        x.snapshotDifference(0);
        x.maskValue(2, 0, 0);
        Check.due("computed", x.counter(0), 5);
        Check.due("found", x.counter(1), 0);
        Check.due("dropped", x.counter(2), 0);
        Check.due("tiles", x.cachedTiles(0) + x.cachedTiles(1) + x.cachedTiles(2), 5);
        Check.due("oldestTile()", x.oldestTile(), 0);
        Check.due("undo()", x.undo(), 2);
    }
}
