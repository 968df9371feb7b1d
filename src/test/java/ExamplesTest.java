/** The four examples of the document. */
final class ExamplesTest {
    private ExamplesTest() {
    }

    public static void main(String[] args) {
        first();
        second();
        third();
        fourth();
        Check.end();
    }

    private static void first() {
        AdjustmentStack x = new AdjustmentStack();
        Check.due("addLayer(1, 50, 0)", x.addLayer(1, 50, 0), 0);
        Check.due("pixel(0, 1, 0)", x.pixel(0, 1, 0), 67);
        Check.due("counter(0)", x.counter(0), 1);
        Check.due("addLayer(6, 1, 0)", x.addLayer(6, 1, 0), 1);
        Check.due("pixel(1, 0, 0)", x.pixel(1, 0, 0), 73);
        Check.due("counter(0)", x.counter(0), 5);
        Check.due("setPixel(7, 7, 0)", x.setPixel(7, 7, 0), 1);
        Check.due("cachedTiles(1)", x.cachedTiles(1), 1);
        Check.due("setPixel(0, 0, 99)", x.setPixel(0, 0, 99), 2);
        Check.due("cachedTiles(1)", x.cachedTiles(1), 0);
    }

    private static void second() {
        AdjustmentStack x = new AdjustmentStack();
        Check.due("addLayer(4, 0, 0)", x.addLayer(4, 0, 0), 0);
        Check.due("setBlend(0, 0, 50)", x.setBlend(0, 0, 50), 100);
        Check.due("pixel(0, 0, 0)", x.pixel(0, 0, 0), 127);
        Check.due("effect(0)", x.effect(0), 3956);
        Check.due("setEnabled(0, 0)", x.setEnabled(0, 0), 0);
        Check.due("pixel(0, 0, 0)", x.pixel(0, 0, 0), 0);
        Check.due("undo()", x.undo(), 2);
        Check.due("pixel(0, 0, 0)", x.pixel(0, 0, 0), 127);
    }

    private static void third() {
        AdjustmentStack x = new AdjustmentStack();
        Check.due("typed", Check.type(x, "blur 4;"), 7);
        Check.due("loadStack()", x.loadStack(), -15);
        Check.due("clearText()", x.clearText(), 7);
    }

    private static void fourth() {
        AdjustmentStack x = new AdjustmentStack();
        Check.due("typed", Check.type(x, "invert;"), 7);
        Check.due("loadStack()", x.loadStack(), 1);
        Check.due("layer(0, 4)", x.layer(0, 4), 100);
        Check.due("pixel(0, 0, 1)", x.pixel(0, 0, 1), 226);
    }
}
