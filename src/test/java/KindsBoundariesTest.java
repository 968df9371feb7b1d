/** Description: the boundary cases of what layers make of their input, by kind, mode and opacity. */
final class KindsBoundariesTest {
    private KindsBoundariesTest() {
    }

    public static void main(String[] args) {
        levels();
        brightness();
        contrast();
        posterize();
        invertThresholdAndFill();
        stretch();
        blurOverEdges();
        medianOfEveryNumber();
        dilateAndErode();
        sharpen();
        offset();
        smallestImage();
        modesAtTheirEnds();
        modesThatAreClamped();
        opacityAndMask();
        inputsOfLayers();
        Check.end();
    }

    /** Pairs of a value of the input and the value that is due. */
    private static void makes(int kind, int a, int b, int... pairs) {
        for (int i = 0; i < pairs.length; i += 2) {
            AdjustmentStack x = constant(pairs[i]);
            x.addLayer(kind, a, b);
            Check.due("kind " + kind + " (" + a + ", " + b + ") of " + pairs[i], x.pixel(0, 3, 2), pairs[i + 1]);
        }
    }

    private static AdjustmentStack constant(int value) {
        AdjustmentStack x = new AdjustmentStack();
        x.fillRectangle(0, 0, 8, 8, value);
        return x;
    }

    private static void levels() {
        Check.description("Layers: levels");
        makes(0, 0, 255, 0, 0, 1, 1, 254, 254, 255, 255);
        makes(0, 0, 1, 0, 0, 1, 255, 2, 255, 255, 255);
        makes(0, 254, 255, 0, 0, 253, 0, 254, 0, 255, 255);
        makes(0, 100, 103, 99, 0, 100, 0, 101, 85, 102, 170, 103, 255, 104, 255);
        makes(0, 100, 101, 100, 0, 101, 255);
        makes(0, 0, 254, 1, 1, 127, 127, 253, 253, 254, 255);
    }

    private static void brightness() {
        Check.description("Layers: brightness, clamped");
        makes(1, 255, 0, 0, 255, 1, 255, 255, 255);
        makes(1, -255, 0, 0, 0, 254, 0, 255, 0);
        makes(1, 0, 0, 0, 0, 255, 255);
        makes(1, 5, 0, 249, 254, 250, 255, 251, 255);
        makes(1, -5, 0, 4, 0, 5, 0, 6, 1);
    }

    private static void contrast() {
        Check.description("Layers: contrast, clamped, rounded toward negative infinity");
        makes(2, 0, 0, 0, 128, 128, 128, 255, 128);
        makes(2, 400, 0, 95, 0, 96, 0, 97, 4, 128, 128, 159, 252, 160, 255);
        makes(2, 100, 0, 0, 0, 127, 127, 255, 255);
        makes(2, 1, 0, 127, 127, 28, 127, 27, 126, 227, 128, 228, 129);
        makes(2, 99, 0, 0, 1, 255, 253);
    }

    private static void posterize() {
        Check.description("Layers: posterize");
        makes(3, 2, 0, 0, 0, 127, 0, 128, 255, 255, 255);
        makes(3, 3, 0, 85, 0, 86, 127, 170, 127, 171, 255);
        makes(3, 16, 0, 15, 0, 16, 17, 239, 238, 240, 255, 255, 255);
    }

    private static void invertThresholdAndFill() {
        Check.description("Layers: invert");
        makes(4, 0, 0, 0, 255, 1, 254, 255, 0);
        Check.description("Layers: threshold");
        makes(5, 0, 0, 0, 255, 255, 255);
        makes(5, 1, 0, 0, 0, 1, 255);
        makes(5, 255, 0, 254, 0, 255, 255);
        makes(5, 256, 0, 0, 0, 255, 0);
        Check.description("Layers: fill");
        makes(12, 0, 0, 0, 0, 255, 0);
        makes(12, 255, 0, 0, 255, 255, 255);
    }

    private static void stretch() {
        Check.description("Layers: stretch");
        makes(13, 0, 0, 0, 0, 77, 77, 255, 255);
        int[][] cases = {{10, 11, 0, 255}, {0, 255, 0, 255}, {254, 255, 0, 255}, {0, 1, 0, 255}};
        for (int[] each : cases) {
            AdjustmentStack x = constant(each[0]);
            x.setPixel(7, 7, each[1]);
            x.addLayer(13, 0, 0);
            Check.due("the smallest of " + each[0] + " and " + each[1], x.pixel(0, 0, 0), each[2]);
            Check.due("the greatest of " + each[0] + " and " + each[1], x.pixel(0, 7, 7), each[3]);
        }
        AdjustmentStack x = constant(4);
        x.setPixel(0, 0, 5);
        x.setPixel(7, 7, 7);
        x.addLayer(13, 0, 0);
        Check.due("a third of the way", x.pixel(0, 0, 0), 85);
        Check.due("the low value", x.pixel(0, 1, 0), 0);
    }

    /** One pixel of 255 in a black image shows how many pixels a neighbourhood has. */
    private static void blurOverEdges() {
        Check.description("Layers: blur, the neighbourhood at edges and corners");
        int[][] at = {{0, 0, 4, 9, 16}, {1, 0, 6, 12, 20}, {8, 0, 6, 15, 28}, {0, 8, 6, 15, 28}, {8, 8, 9, 25, 49},
            {15, 15, 4, 9, 16}, {14, 15, 6, 12, 20}, {1, 1, 9, 16, 25}, {2, 2, 9, 25, 36}, {13, 13, 9, 25, 36},
            {3, 12, 9, 25, 49}};
        for (int[] each : at) {
            AdjustmentStack x = new AdjustmentStack();
            x.newImage(16, 16);
            x.fillRectangle(0, 0, 16, 16, 0);
            x.setPixel(each[0], each[1], 255);
            x.addLayer(6, 1, 0);
            for (int radius = 1; radius <= 3; radius++) {
                x.setParameters(0, radius, 0);
                Check.due("blur " + radius + " at (" + each[0] + ", " + each[1] + ")", x.pixel(0, each[0], each[1]),
                    255 / each[1 + radius]);
            }
        }
    }

    /** Pixels of the neighbourhood become 0 one by one: the median changes when more than (n - 1) / 2 of them are 0. */
    private static void medianOfEveryNumber() {
        Check.description("Layers: median, the value with the index (number of pixels - 1) / 2");
        int[][] at = {{0, 0}, {1, 0}, {0, 3}, {3, 3}, {7, 7}, {6, 7}, {1, 1}, {2, 1}};
        for (int radius = 1; radius <= 2; radius++) {
            for (int[] each : at) {
                medianAt(each[0], each[1], radius);
            }
        }
    }

    private static void medianAt(int column, int row, int radius) {
        AdjustmentStack x = constant(255);
        x.addLayer(7, radius, 0);
        int left = Math.max(0, column - radius);
        int right = Math.min(7, column + radius);
        int top = Math.max(0, row - radius);
        int bottom = Math.min(7, row + radius);
        int pixels = (right - left + 1) * (bottom - top + 1);
        int zeros = 0;
        for (int v = top; v <= bottom; v++) {
            for (int u = left; u <= right; u++) {
                x.setPixel(u, v, 0);
                zeros++;
                Check.due("median " + radius + " at (" + column + ", " + row + ") with " + zeros + " zeros of " + pixels,
                    x.pixel(0, column, row), zeros > (pixels - 1) / 2 ? 0 : 255);
            }
        }
    }

    private static void dilateAndErode() {
        Check.description("Layers: dilate and erode, a distance of at most a");
        for (int kind = 8; kind <= 9; kind++) {
            int spot = kind == 8 ? 255 : 0;
            for (int radius = 1; radius <= 3; radius++) {
                AdjustmentStack x = new AdjustmentStack();
                x.newImage(16, 16);
                x.fillRectangle(0, 0, 16, 16, 255 - spot);
                x.setPixel(7, 9, spot);
                x.addLayer(kind, radius, 0);
                for (int row = 4; row <= 14; row++) {
                    for (int column = 2; column <= 12; column++) {
                        int distance = Math.max(Math.abs(column - 7), Math.abs(row - 9));
                        Check.due("kind " + kind + ", radius " + radius + " at the distance " + distance,
                            x.pixel(0, column, row), distance <= radius ? spot : 255 - spot);
                    }
                }
            }
        }
    }

    private static int sharpened(int others, int value, int radius, int percent) {
        AdjustmentStack x = constant(others);
        x.setPixel(4, 4, value);
        x.addLayer(10, radius, percent);
        return x.pixel(0, 4, 4);
    }

    private static void sharpen() {
        Check.description("Layers: sharpen, clamped, rounded toward negative infinity");
        Check.due("b is 0", sharpened(100, 109, 1, 0), 109);
        Check.due("b is 300, brighter than m = 101", sharpened(100, 109, 1, 300), 109 + 24);
        Check.due("b is 300, darker than m = 99", sharpened(100, 91, 1, 300), 91 - 24);
        Check.due("b is 1, brighter", sharpened(100, 109, 1, 1), 109);
        Check.due("b is 1, darker", sharpened(100, 91, 1, 1), 90);
        Check.due("254", sharpened(221, 230, 1, 300), 254);
        Check.due("255", sharpened(222, 231, 1, 300), 255);
        Check.due("256", sharpened(223, 232, 1, 300), 255);
        Check.due("far beyond 255", sharpened(0, 255, 3, 300), 255);
        Check.due("1", sharpened(34, 25, 1, 300), 1);
        Check.due("0", sharpened(33, 24, 1, 300), 0);
        Check.due("-1", sharpened(32, 23, 1, 300), 0);
        Check.due("far below 0", sharpened(255, 0, 3, 300), 0);
        Check.due("m of the radius 2", sharpened(100, 125, 2, 100), 125 + 24);
        Check.due("m of the radius 3", sharpened(100, 149, 3, 100), 149 + 48);
    }

    private static void offset() {
        Check.description("Layers: offset, columns and rows outside are replaced by the nearest ones inside");
        for (int a = -3; a <= 3; a++) {
            for (int b = -3; b <= 3; b++) {
                AdjustmentStack x = new AdjustmentStack();
                x.newImage(5, 4);
                x.addLayer(11, a, b);
                for (int row = 0; row < 4; row++) {
                    for (int column = 0; column < 5; column++) {
                        int fromColumn = Math.max(0, Math.min(4, column - a));
                        int fromRow = Math.max(0, Math.min(3, row - b));
                        Check.due("offset (" + a + ", " + b + ") at (" + column + ", " + row + ")",
                            x.pixel(0, column, row), (17 * fromColumn + 29 * fromRow) % 256);
                    }
                }
            }
        }
    }

    /** The neighbourhoods with the radius 3 of the inner pixels of a 4 by 4 image are the whole image. */
    private static void smallestImage() {
        Check.description("Image: the neighbourhood consists of pixels of the image only");
        AdjustmentStack x = new AdjustmentStack();
        x.newImage(4, 4);
        int sum = 24 * 17 + 24 * 29;
        x.addLayer(6, 3, 0);
        Check.due("blur 3 at (1, 1)", x.pixel(0, 1, 1), sum / 16);
        Check.due("blur 3 at (0, 0)", x.pixel(0, 0, 0), sum / 16);
        Check.due("blur 3 at (3, 3)", x.pixel(0, 3, 3), sum / 16);
        x.newImage(5, 5);
        Check.due("blur 3 at (0, 0) of 5 by 5", x.pixel(0, 0, 0), sum / 16);
        Check.due("blur 3 at (2, 2) of 5 by 5", x.pixel(0, 2, 2), 2 * 17 + 2 * 29);
    }

    private static int clamped(int value) {
        return value < 0 ? 0 : value > 255 ? 255 : value;
    }

    private static int mixed(int mode, int v, int n) {
        switch (mode) {
            case 0: return n;
            case 1: return v * n / 255;
            case 2: return 255 - (255 - v) * (255 - n) / 255;
            case 3: return Math.max(v, n);
            case 4: return Math.min(v, n);
            case 5: return Math.abs(v - n);
            case 6: return clamped(v + n);
            default: return clamped(v - n);
        }
    }

    private static int blended(int mode, int v, int n) {
        AdjustmentStack x = constant(v);
        x.addLayer(12, n, 0);
        x.setBlend(0, mode, 100);
        return x.pixel(0, 5, 5);
    }

    private static void modesAtTheirEnds() {
        Check.description("Layers: blend modes");
        int[] values = {0, 1, 2, 127, 128, 254, 255};
        for (int mode = 0; mode <= 7; mode++) {
            for (int v : values) {
                for (int n : values) {
                    Check.due("mode " + mode + " of " + v + " and " + n, blended(mode, v, n), mixed(mode, v, n));
                }
            }
        }
    }

    private static void modesThatAreClamped() {
        Check.description("Layers: blend modes, clamped");
        Check.due("add to 254", blended(6, 100, 154), 254);
        Check.due("add to 255", blended(6, 100, 155), 255);
        Check.due("add to 256", blended(6, 100, 156), 255);
        Check.due("subtract to 1", blended(7, 100, 99), 1);
        Check.due("subtract to 0", blended(7, 100, 100), 0);
        Check.due("subtract to -1", blended(7, 100, 101), 0);
        Check.due("multiply rounds down", blended(1, 254, 254), 253);
        Check.due("screen rounds up", blended(2, 1, 1), 2);
    }

    private static int shown(int v, int n, int opacity, int column, boolean inverted) {
        AdjustmentStack x = new AdjustmentStack();
        x.newImage(16, 4);
        x.fillRectangle(0, 0, 16, 4, v);
        x.addLayer(12, n, 0);
        x.setBlend(0, 0, opacity);
        x.setMask(0, 2, 0, 0, 15, 0);
        if (inverted) {
            x.invertMask(0);
        }
        return x.pixel(0, column, 1);
    }

    private static void opacityAndMask() {
        Check.description("Layers: v + (t - v) * p * w / 25500, rounded toward negative infinity");
        Check.due("p = 100, w = 255", shown(10, 200, 100, 15, false), 200);
        Check.due("p = 0, w = 255", shown(10, 200, 0, 15, false), 10);
        Check.due("p = 100, w = 0", shown(10, 200, 100, 0, false), 10);
        Check.due("p = 100, w = 0, downward", shown(200, 10, 100, 0, false), 200);
        Check.due("p = 0, downward", shown(200, 10, 0, 15, false), 200);
        Check.due("p = 1, w = 17, upward", shown(0, 255, 1, 1, false), 0);
        Check.due("p = 1, w = 17, downward", shown(255, 0, 1, 1, false), 254);
        Check.due("p = 1, w = 255, just 1 up", shown(0, 100, 1, 15, false), 1);
        Check.due("p = 1, w = 255, not yet 1 up", shown(0, 99, 1, 15, false), 0);
        Check.due("p = 1, w = 255, just 1 down", shown(100, 0, 1, 15, false), 99);
        Check.due("p = 1, w = 255, more than 1 down", shown(101, 0, 1, 15, false), 99);
        Check.due("p = 99, w = 255, 1 down", shown(1, 0, 99, 15, false), 0);
        Check.due("p = 100, w = 238 of the inverted mask", shown(0, 255, 100, 1, true), 238);
        Check.due("p = 50, w = 85", shown(0, 255, 50, 5, false), 42);
        Check.due("p = 50, w = 85, downward", shown(255, 0, 50, 5, false), 255 - 43);
    }

    private static void inputsOfLayers() {
        Check.description("Layers: inputs and outputs");
        AdjustmentStack x = constant(100);
        for (int i = 0; i < 8; i++) {
            x.addLayer(1, 1 << i, 0);
        }
        x.setParameters(7, -100, 0);
        Check.due("the input of the bottom layer is the base image", x.pixel(0, 0, 0), 101);
        Check.due("of any other one, the output of the layer below", x.pixel(6, 0, 0), 100 + 127);
        Check.due("the top layer", x.pixel(7, 0, 0), 127);
        x.setEnabled(6, 0);
        Check.due("of a layer that is not enabled, its input", x.pixel(6, 0, 0), 100 + 63);
        x.setEnabled(0, 0);
        Check.due("the bottom layer is not enabled", x.pixel(0, 0, 0), 100);
        Check.due("the layer above it", x.pixel(1, 0, 0), 102);
        for (int i = 1; i < 8; i++) {
            x.setEnabled(i, 0);
        }
        Check.due("no layer is enabled", x.pixel(7, 0, 0), 100);
    }
}
