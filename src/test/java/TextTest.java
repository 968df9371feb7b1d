/** Promises 20 to 22: the text. */
final class TextTest {
    private static final int INVALID = AdjustmentStack.INVALID_ARGUMENT;
    private static final String[] KINDS = {"levels 1 2", "brightness 3", "contrast 4", "posterize 5", "invert",
        "threshold 6", "blur 1", "median 2", "dilate 3", "erode 1", "sharpen 2 7", "offset 1 2", "fill 8", "stretch"};
    private static final int[][] PARAMETERS = {{1, 2}, {3, 0}, {4, 0}, {5, 0}, {0, 0}, {6, 0}, {1, 0}, {2, 0}, {3, 0},
        {1, 0}, {2, 7}, {1, 2}, {8, 0}, {0, 0}};
    private static final String[] MODES =
        {"normal", "multiply", "screen", "lighten", "darken", "difference", "add", "subtract"};

    private TextTest() {
    }

    public static void main(String[] args) {
        append();
        clearText();
        loadStack();
        kinds();
        modes();
        options();
        numbers();
        spaces();
        errors();
        errorsOfOptions();
        nineLayers();
        failureChangesNothing();
        Check.end();
    }

    private static void append() {
        Check.promise(20, "append");
        AdjustmentStack x = new AdjustmentStack();
        Check.due("append(0)", x.append(0), INVALID);
        Check.due("append(256)", x.append(256), INVALID);
        Check.due("append(-1)", x.append(-1), INVALID);
        Check.due("append(1)", x.append(1), 1);
        Check.due("append(255)", x.append(255), 2);
        for (int length = 3; length <= 160; length++) {
            Check.due("append(32)", x.append(32), length);
        }
        Check.due("append(32) to a full text", x.append(32), AdjustmentStack.CAPACITY_EXCEEDED);
        Check.due("append(0) to a full text", x.append(0), INVALID);
        Check.due("append(256) to a full text", x.append(256), INVALID);
        Check.due("clearText()", x.clearText(), 160);
        Check.due("append(32) again", x.append(32), 1);
        Check.due("nothing is saved", x.undo(), AdjustmentStack.ILLEGAL_STATE);
    }

    private static void clearText() {
        Check.promise(21, "clearText");
        AdjustmentStack x = new AdjustmentStack();
        Check.due("clearText() of none", x.clearText(), 0);
        Check.type(x, "blur 1;");
        Check.due("clearText()", x.clearText(), 7);
        Check.due("clearText() again", x.clearText(), 0);
        Check.due("loadStack() of nothing", x.loadStack(), 0);
    }

    private static void loadStack() {
        Check.promise(22, "loadStack");
        AdjustmentStack x = new AdjustmentStack();
        x.addLayer(12, 9, 0);
        x.dab(0, 1, 1, 1);
        x.prefetch(0);
        Check.due("load", Check.load(x, "blur 2; invert;"), 2);
        Check.due("the text is empty", x.clearText(), 0);
        Check.due("layer(0, 0)", x.layer(0, 0), 6);
        Check.due("layer(0, 7)", x.layer(0, 7), 0);
        Check.due("layer(0, 8)", x.layer(0, 8), 0);
        Check.due("layer(1, 0)", x.layer(1, 0), 4);
        Check.due("tiles", x.cachedTiles(0), 0);
        Check.due("dropped tiles", x.counter(2), 0);
        x.prefetch(1);
        Check.due("load of an empty text", Check.load(x, ""), 0);
        Check.due("size(2)", x.size(2), 0);
        Check.due("clearCache()", x.clearCache(), 0);
        Check.due("undo()", x.undo(), 3);
        Check.due("layers again", x.size(2), 2);
        Check.due("undo() 2", x.undo(), 2);
        Check.due("layer(0, 1) again", x.layer(0, 1), 1009);
        Check.due("layer(0, 8) again", x.layer(0, 8), 1);
    }

    private static void kinds() {
        Check.promise(22, "loadStack");
        for (int kind = 0; kind < KINDS.length; kind++) {
            AdjustmentStack x = new AdjustmentStack();
            Check.due("load " + KINDS[kind], Check.load(x, KINDS[kind] + ";"), 1);
            int[] want = {kind, 1000 + PARAMETERS[kind][0], 1000 + PARAMETERS[kind][1], 0, 100, 1};
            for (int what = 0; what < want.length; what++) {
                Check.due(KINDS[kind] + " layer(0, " + what + ")", x.layer(0, what), want[what]);
            }
            int length = KINDS[kind].length();
            Check.due(KINDS[kind] + " and a number too many", Check.load(x, KINDS[kind] + " 1;"), -11 - length);
            Check.due(KINDS[kind] + " without a ;", Check.load(x, KINDS[kind] + " "), -11 - length);
        }
    }

    private static void modes() {
        Check.promise(22, "loadStack");
        for (int mode = 0; mode < MODES.length; mode++) {
            AdjustmentStack x = new AdjustmentStack();
            Check.due("load mode " + MODES[mode], Check.load(x, "invert mode " + MODES[mode] + ";"), 1);
            Check.due("layer(0, 3) " + MODES[mode], x.layer(0, 3), mode);
        }
    }

    private static void options() {
        Check.promise(22, "loadStack");
        AdjustmentStack x = new AdjustmentStack();
        Check.due("three options", Check.load(x, "invert off mode add opacity 0;fill 1 opacity 100;"), 2);
        Check.due("layer(0, 3)", x.layer(0, 3), 6);
        Check.due("layer(0, 4)", x.layer(0, 4), 0);
        Check.due("layer(0, 5)", x.layer(0, 5), 0);
        Check.due("layer(1, 3)", x.layer(1, 3), 0);
        Check.due("layer(1, 4)", x.layer(1, 4), 100);
        Check.due("layer(1, 5)", x.layer(1, 5), 1);
        Check.due("another order", Check.load(x, "invert opacity 7 off mode screen;"), 1);
        Check.due("layer(0, 4)", x.layer(0, 4), 7);
        Check.due("layer(0, 5)", x.layer(0, 5), 0);
        Check.due("layer(0, 3)", x.layer(0, 3), 2);
    }

    private static void loads(String text, int want) {
        AdjustmentStack x = new AdjustmentStack();
        Check.due("load \"" + text + "\"", Check.load(x, text), want);
    }

    private static void numbers() {
        Check.promise(22, "loadStack");
        loads("brightness -255;", 1);
        loads("brightness - 255;", 1);
        loads("brightness -0;", 1);
        loads("brightness 0;", 1);
        loads("brightness -256;", -22);
        loads("brightness 256;", -21);
        loads("brightness --1;", -22);
        loads("brightness -;", -22);
        loads("brightness -", -22);
        loads("brightness 00;", -21);
        loads("brightness 07;", -21);
        loads("brightness -07;", -22);
        loads("brightness 1000;", -21);
        loads("brightness 0000;", -21);
        loads("offset-3-3;", 1);
        loads("offset 3 -3;", 1);
        loads("offset -4 0;", -18);
        loads("offset 0 -4;", -20);
        loads("offset 0 4;", -19);
        loads("offset 11;", -17);
        loads("offset 1", -18);
        loads("offset 1 ;", -19);
        loads("contrast -1;", -19);
        loads("contrast 401;", -19);
        loads("contrast 400;", 1);
        loads("threshold 256;", 1);
        loads("threshold 257;", -20);
        loads("posterize 1;", -20);
        loads("posterize 17;", -20);
        loads("median 3;", -17);
        loads("median 0;", -17);
        loads("sharpen 3 300;", 1);
        loads("sharpen 3 301;", -20);
        loads("sharpen 3 -1;", -20);
        loads("levels 254 255;", 1);
        loads("levels 255 255;", -17);
        loads("levels 10 10;", -20);
        loads("levels 10 256;", -20);
        loads("levels 10 -1;", -20);
        loads("fill 256;", -15);
    }

    private static void spaces() {
        Check.promise(22, "loadStack");
        loads("   ", 0);
        loads("  blur   1  ;  invert  ;  ", 2);
        loads("blur1;invert;", 2);
        loads("levels 9 8 ", -19);
        loads("levels 9 ", -19);
        loads("blur 1opacity5off;", 1);
        loads("blur\t1;", -14);
        loads("\n", -10);
    }

    private static void errors() {
        Check.promise(22, "loadStack");
        loads("blu 1;", -10);
        loads("blurr 1;", -10);
        loads("glur 1;", -10);
        loads("blur x;", -15);
        loads("blur ;", -15);
        loads("blur", -14);
        loads("blur  ", -16);
        loads("blur 1", -16);
        loads("; blur 1;", -10);
        loads("1;", -10);
        loads("-", -10);
        loads("opacity 5;", -10);
        loads("Blur 1;", -10);
        loads("bLur 1;", -10);
        loads("blur 1;;", -17);
        loads("blur 1; ?", -18);
        loads("invert 1;", -17);
        loads("invert -1;", -17);
        loads("invert blur 1;", -17);
        loads("invert\u00e9;", -16);
        loads("invert\u0001;", -16);
        loads("invert {;", -17);
        loads("invert `;", -17);
        loads("invert /;", -17);
        loads("invert :;", -17);
    }

    private static void errorsOfOptions() {
        Check.promise(22, "loadStack");
        loads("invert opacity;", -24);
        loads("invert opacity 101;", -25);
        loads("invert opacity -1;", -25);
        loads("invert opacity", -24);
        loads("invert opacity off;", -25);
        loads("invert mode;", -21);
        loads("invert mode off;", -22);
        loads("invert mode addition;", -22);
        loads("invert mode", -21);
        loads("invert mode 3;", -22);
        loads("invert off off;", -21);
        loads("invert mode add mode add;", -26);
        loads("invert opacity 5 opacity 5;", -27);
        loads("invert off mode add opacity 3 off;", -40);
        loads("invert off mode add opacity 3 5;", -40);
        loads("invert add;", -17);
        loads("invert off 5;", -21);
    }

    private static void nineLayers() {
        Check.promise(22, "loadStack");
        String eight = "invert;".repeat(8);
        loads(eight, 8);
        loads(eight + "  ", 8);
        loads(eight + " invert;", -67);
        loads(eight + ";", -66);
        loads(eight + "9", -66);
    }

    private static void failureChangesNothing() {
        Check.promise(22, "loadStack");
        AdjustmentStack x = new AdjustmentStack();
        x.addLayer(12, 9, 0);
        x.prefetch(0);
        Check.due("load", Check.load(x, "invert; blur 2; fill 256;"), -31);
        Check.due("size(2)", x.size(2), 1);
        Check.due("layer(0, 0)", x.layer(0, 0), 12);
        Check.due("tiles", x.cachedTiles(0), 4);
        Check.due("load again", x.loadStack(), -31);
        Check.due("the text is kept", x.append(32), 26);
        Check.due("clearText()", x.clearText(), 26);
        Check.due("undo()", x.undo(), 0);
    }
}
