/** Sentences of the document that are about all layers, or about all calls of an object. */
final class DescriptionTest {
    private static final int MOST_CALLS = 512;
    private static final int[][] LAYERS = {{0, 0, 1}, {0, 254, 255}, {0, 20, 200}, {1, -255, 0}, {1, 255, 0}, {2, 0, 0},
        {2, 400, 0}, {3, 2, 0}, {3, 16, 0}, {4, 0, 0}, {5, 0, 0}, {5, 256, 0}, {6, 1, 0}, {6, 3, 0}, {7, 2, 0}, {8, 3, 0},
        {9, 3, 0}, {10, 1, 300}, {10, 3, 300}, {11, -3, 3}, {12, 0, 0}, {12, 255, 0}, {13, 0, 0}};
    private static final String[] MASKS = {"", "setMask 0 1 2 2 4 4, setFeather 0 5", "setMask 0 2 0 0 7 0",
        "setMask 0 3 0 0 0 0", "setMask 0 3 0 0 0 0, invertMask 0", "dab 0 3 3 2"};

    private DescriptionTest() {
    }

    public static void main(String[] args) {
        allValuesArePossible();
        outputsAreTheSameWithAndWithoutCache();
        lastOfManyQuestions();
        lastOfManyChanges();
        lastOfManyCharacters();
        Check.end();
    }

    private static void allValuesArePossible() {
        Check.description("Image: all values of pixels are integers from 0 to 255");
        int[] opacities = {0, 1, 50, 100};
        for (int[] layer : LAYERS) {
            for (String mask : MASKS) {
                AdjustmentStack x = new AdjustmentStack();
                Call.makeAll(x, "setPixel 0 0 255, setPixel 7 0 0, setPixel 0 7 255, setPixel 1 7 0");
                x.addLayer(layer[0], layer[1], layer[2]);
                Call.makeAll(x, mask);
                for (int mode = 0; mode <= 7; mode++) {
                    for (int opacity : opacities) {
                        x.setBlend(0, mode, opacity);
                        Check.due("pixels from 0 to 255 of kind " + layer[0] + ", mode " + mode + ", opacity " + opacity
                            + ", mask \"" + mask + "\"", x.histogram(0, 0, 255), 64);
                    }
                }
            }
        }
    }

    /** Tiles hold pixels of outputs; the questions about the whole image compute the same outputs by themselves. */
    private static void outputsAreTheSameWithAndWithoutCache() {
        Check.description("Tiles: they are tiles of outputs");
        for (int[] layer : LAYERS) {
            for (String mask : MASKS) {
                AdjustmentStack x = new AdjustmentStack();
                x.addLayer(layer[0], layer[1], layer[2]);
                Call.makeAll(x, mask);
                Call.makeAll(x, "addLayer 6 1 0, setTileSize 3");
                for (int number = 0; number <= 1; number++) {
                    int sum = 0;
                    for (int i = 0; i < 64; i++) {
                        sum += x.pixel(number, i % 8, i / 8);
                    }
                    Check.due("sum(" + number + ") of kind " + layer[0] + ", mask \"" + mask + "\"", x.sum(number), sum);
                }
            }
        }
    }

    private static void lastOfManyQuestions() {
        Check.description("What it is: an object is used for at most 512 calls");
        AdjustmentStack x = new AdjustmentStack();
        int calls = 0;
        int sum = 0;
        for (int i = 0; i < 64; i++) {
            sum += 255 - (17 * (i % 8) + 29 * (i / 8)) % 256;
        }
        Check.due("addLayer(4, 0, 0)", x.addLayer(4, 0, 0), 0);
        calls++;
        while (calls < MOST_CALLS - 3) {
            int column = calls % 8;
            int row = calls / 8 % 8;
            Check.due("pixel, call " + (calls + 1), x.pixel(0, column, row), 255 - (17 * column + 29 * row) % 256);
            calls++;
        }
        Check.due("call 510: computed", x.counter(0), 4);
        Check.due("call 511: found", x.counter(1), MOST_CALLS - 4 - 4);
        Check.due("call 512: sum(0)", x.sum(0), sum);
    }

    private static void lastOfManyChanges() {
        Check.description("What it is: an object is used for at most 512 calls");
        AdjustmentStack x = new AdjustmentStack();
        for (int calls = 1; calls <= MOST_CALLS - 2; calls++) {
            Check.due("setPixel, call " + calls, x.setPixel(calls % 8, 0, calls % 256), 0);
        }
        Check.due("call 511: undo()", x.undo(), 5);
        Check.due("call 512: the pixel before call 510", x.pixel(-1, (MOST_CALLS - 2) % 8, 0), (MOST_CALLS - 10) % 256);
    }

    private static void lastOfManyCharacters() {
        Check.description("What it is: an object is used for at most 512 calls");
        AdjustmentStack x = new AdjustmentStack();
        String text = "invert;".repeat(8) + " ".repeat(103);
        for (int load = 1; load <= 3; load++) {
            Check.due("159 characters", Check.type(x, text), 159);
            Check.due("loadStack()", x.loadStack(), 8);
        }
        for (int calls = 3 * 160 + 1; calls < MOST_CALLS; calls++) {
            Check.due("append, call " + calls, x.append('?'), calls - 480);
        }
        Check.due("call 512: loadStack()", x.loadStack(), -10);
    }
}
