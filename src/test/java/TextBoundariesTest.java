/** Promises 20 to 22, and the text in the description: their boundary cases. */
final class TextBoundariesTest {
    private static final int INVALID = AdjustmentStack.INVALID_ARGUMENT;
    private static final int FULL = AdjustmentStack.CAPACITY_EXCEEDED;
    private static final String[] KINDS = {"levels", "brightness", "contrast", "posterize", "invert", "threshold", "blur",
        "median", "dilate", "erode", "sharpen", "offset", "fill", "stretch"};
    /** For each kind: the least and the greatest value of each parameter; b of levels is at least 51 here. */
    private static final int[][] RANGES = {{0, 254, 51, 255}, {-255, 255}, {0, 400}, {2, 16}, {}, {0, 256}, {1, 3}, {1, 2},
        {1, 3}, {1, 3}, {1, 3, 0, 300}, {-3, 3, -3, 3}, {0, 255}, {}};

    private TextBoundariesTest() {
    }

    public static void main(String[] args) {
        charactersAtTheirEnds();
        lengthsOfTexts();
        emptyTexts();
        fullTexts();
        parametersOfEveryKind();
        numberOfParameters();
        formsOfNumbers();
        minusSigns();
        runsOfCharacters();
        everyCharacter();
        opacities();
        optionsInEveryOrder();
        optionsTwice();
        endsOfTheText();
        eightAndNineLayers();
        theFirstErrorCounts();
        stateAfterLoading();
        stateAfterAnError();
        Check.end();
    }

    private static void loads(String text, int due) {
        AdjustmentStack x = new AdjustmentStack();
        Check.due("loadStack() of \"" + text + "\"", Check.load(x, text), due);
        Check.due("length after \"" + text + "\"", x.clearText(), due >= 0 ? 0 : text.length());
        Check.due("layers after \"" + text + "\"", x.size(2), Math.max(0, due));
    }

    /** The first character of the first token that is not allowed comes just after the first of both texts. */
    private static void fails(String before, String rest) {
        loads(before + rest, -10 - before.length());
    }

    private static void charactersAtTheirEnds() {
        Check.promise(20, "append");
        AdjustmentStack x = new AdjustmentStack();
        int[] wrong = {0, -1, 256, 257, Integer.MIN_VALUE, Integer.MAX_VALUE};
        for (int character : wrong) {
            Check.due("append(" + character + ")", x.append(character), INVALID);
        }
        for (int character = 1; character <= 160; character++) {
            Check.due("append(" + character + ")", x.append(character), character);
        }
        Check.due("append(161) to a full text", x.append(161), FULL);
        for (int character : wrong) {
            Check.due("append(" + character + ") to a full text", x.append(character), INVALID);
        }
        x.clearText();
        for (int character = 161; character <= 255; character++) {
            Check.due("append(" + character + ")", x.append(character), character - 160);
        }
        Check.due("the text saves no state", x.undo(), AdjustmentStack.ILLEGAL_STATE);
    }

    private static void lengthsOfTexts() {
        Check.promise(21, "clearText");
        AdjustmentStack x = new AdjustmentStack();
        int[] lengths = {0, 1, 159, 160};
        for (int length : lengths) {
            Check.type(x, " ".repeat(length));
            Check.due("clearText()", x.clearText(), length);
            Check.due("clearText() of an empty text", x.clearText(), 0);
        }
        Check.type(x, "invert;" + "x".repeat(160));
        Check.due("what was refused is not in the text", x.clearText(), 160);
        Check.type(x, "blur 1;");
        x.clearText();
        Check.type(x, "invert;");
        Check.due("what was there before is not read", x.loadStack(), 1);
        Check.due("the kind", x.layer(0, 0), 4);
    }

    private static void emptyTexts() {
        Check.promise(22, "loadStack");
        loads("", 0);
        loads(" ", 0);
        loads(" ".repeat(160), 0);
        AdjustmentStack x = new AdjustmentStack();
        Call.makeAll(x, "addLayer 4 0 0, prefetch 0, loadStack");
        Check.due("an empty stack in place of a layer", x.size(2), 0);
        Check.due("all tiles are removed", x.clearCache(), 0);
        Check.due("and that is not dropping", x.counter(2), 0);
        Check.due("the state is saved", x.undo(), 1);
        Check.due("the layer", x.size(2), 1);
        Check.due("an empty stack in place of an empty one", new AdjustmentStack().loadStack(), 0);
    }

    private static void fullTexts() {
        Check.promise(22, "loadStack");
        String eight = "sharpen 3 300 off  ;".repeat(8);
        Check.due("characters", eight.length(), 160);
        loads(eight, 8);
        fails(eight.substring(0, 159), "?");
        fails(eight.substring(0, 159), "");
        fails(" ".repeat(159), "x");
        fails(" ".repeat(153) + "invert ", "");
        loads(" ".repeat(153) + "invert;", 1);
        loads("invert;" + " ".repeat(153), 1);
        fails("invert;" + " ".repeat(152), "1");
    }

    private static void parametersOfEveryKind() {
        Check.promise(22, "loadStack");
        for (int kind = 0; kind < KINDS.length; kind++) {
            int[] range = RANGES[kind];
            if (range.length > 0) {
                String after = range.length > 2 ? " " + range[3] + ";" : ";";
                parameter(KINDS[kind] + " ", range[0], range[1], after);
            }
            if (range.length > 2) {
                String first = kind == 0 ? " 50 " : " 1 ";
                parameter(KINDS[kind] + first, range[2], range[3], ";");
            }
        }
        loads("levels 0 1;", 1);
        fails("levels 0 ", "0;");
        loads("levels 254 255;", 1);
        fails("levels 254 ", "254;");
        fails("levels 254 ", "256;");
        fails("levels ", "255 256;");
        fails("levels 200 ", "100;");
    }

    private static void parameter(String before, int least, int greatest, String after) {
        loads(before + least + after, 1);
        loads(before + greatest + after, 1);
        fails(before, greatest + 1 + after);
        fails(before, "999" + after);
        if (least < 0) {
            fails(before + "-", -(least - 1) + after);
            fails(before + "-", "999" + after);
            fails(before + "-", "-1" + after);
            loads(before + "-0" + after, 1);
        } else {
            fails(before, "-1" + after);
            fails(before, "-0" + after);
        }
        if (least > 0) {
            fails(before, least - 1 + after);
        }
    }

    private static void numberOfParameters() {
        Check.promise(22, "loadStack");
        for (int kind = 0; kind < KINDS.length; kind++) {
            int[] range = RANGES[kind];
            String first = range.length > 0 ? " " + range[0] : "";
            String both = range.length > 2 ? first + " " + range[3] : first;
            loads(KINDS[kind] + both + ";", 1);
            fails(KINDS[kind] + both + " ", "1;");
            fails(KINDS[kind] + both, "-1;");
            fails(KINDS[kind] + both + " ", "");
            if (range.length > 0) {
                fails(KINDS[kind], ";");
                fails(KINDS[kind] + " ", "off;");
                fails(KINDS[kind] + " ", "opacity 5;");
                fails(KINDS[kind] + " ", "mode add;");
            }
            if (range.length > 2) {
                fails(KINDS[kind] + first, ";");
                fails(KINDS[kind] + first + " ", "off;");
            }
        }
    }

    private static void formsOfNumbers() {
        Check.promise(22, "loadStack");
        loads("fill 0;", 1);
        loads("fill 9;", 1);
        loads("fill 10;", 1);
        loads("fill 100;", 1);
        fails("fill ", "00;");
        fails("fill ", "01;");
        fails("fill ", "010;");
        fails("fill ", "000;");
        fails("fill ", "1000;");
        fails("fill ", "0100;");
        fails("fill ", "1234567890123;");
        fails("fill ", "4294967297;");
        fails("fill 10 ", "0;");
        fails("offset -", "01 0;");
        fails("offset -", "1000 0;");
        fails("invert opacity ", "00;");
        fails("invert opacity ", "0100;");
    }

    private static void minusSigns() {
        Check.promise(22, "loadStack");
        loads("offset -0 -0;", 1);
        loads("offset - 3 - 3;", 1);
        loads("offset-3-3;", 1);
        loads("offset 3-3;", 1);
        loads("brightness   -   255   ;", 1);
        fails("offset -", "-3 0;");
        fails("offset -", ";");
        fails("offset -", "off;");
        fails("offset - ", "");
        fails("offset 0 -", "");
        fails("offset 0 -0 ", "-0;");
        fails("levels ", "-0 5;");
        fails("levels 0 ", "-5;");
        fails("sharpen 1 ", "-0;");
        fails("fill ", "-0;");
        fails("invert ", "-;");
        fails("invert opacity ", "-0;");
        fails("invert opacity 5 ", "-;");
        fails("", "-invert;");
    }

    private static void runsOfCharacters() {
        Check.promise(22, "loadStack");
        loads("blur1;", 1);
        loads("blur1opacity5mode add off;", 1);
        loads("levels0 1off;invert;", 2);
        fails("", "bluropacity 5;");
        fails("blur", "_1;");
        fails("blur 1", "opacityfive;");
        fails("blur 1 ", "offoff;");
        fails("invert mode ", "addoff;");
        fails("invert mode add", "5;");
        fails("", "in vert;");
        fails("", "invertinvert;");
        fails("", "inver;");
        fails("", "inverts;");
        fails("", "Invert;");
        fails("", "INVERT;");
        fails("invert mode ", "Add;");
        fails("invert ", "Off;");
        fails("fill 1", "x;");
        fails("fill 1", "X;");
        fails("fill 1 ", "2;");
    }

    /** Each character as a token of its own, at the beginning, in a layer, and before a number. */
    private static void everyCharacter() {
        Check.promise(22, "loadStack");
        for (char c = 1; c <= 255; c++) {
            if (c == ' ') {
                continue;
            }
            fails("", String.valueOf(c));
            fails("invert" + (c == ';' ? ";" : " "), c + ";");
            boolean one = c >= '1' && c <= '3';
            loads("blur " + c + ";", one ? 1 : -15);
            if (!(c >= 'a' && c <= 'z')) {
                loads("invert" + c, c == ';' ? 1 : -16);
            }
        }
    }

    private static void opacities() {
        Check.promise(22, "loadStack");
        int[] possible = {0, 1, 99, 100};
        for (int opacity : possible) {
            AdjustmentStack x = new AdjustmentStack();
            Check.due("opacity " + opacity, Check.load(x, "invert opacity " + opacity + ";"), 1);
            Check.due("layer(0, 4)", x.layer(0, 4), opacity);
        }
        fails("invert opacity ", "101;");
        fails("invert opacity ", "999;");
        fails("invert opacity ", "-1;");
        fails("invert opacity", ";");
        fails("invert opacity ", "mode add;");
        fails("invert opacity", "");
        fails("invert mode", "");
        fails("invert mode", ";");
        fails("invert mode ", "0;");
        fails("invert mode ", "opacity 5;");
        fails("invert mode ", "invert;");
        fails("invert ", "normal;");
    }

    /** Each option, or none of them, in each order: what is not told is as in a new layer. */
    private static void optionsInEveryOrder() {
        Check.promise(22, "loadStack");
        String[] options = {"", " opacity 7", " mode screen", " off"};
        for (int i = 0; i < 64; i++) {
            int[] chosen = {i / 16, i / 4 % 4, i % 4};
            int opacity = 0;
            int mode = 0;
            int off = 0;
            StringBuilder text = new StringBuilder("fill 9");
            for (int option : chosen) {
                text.append(options[option]);
                opacity += option == 1 ? 1 : 0;
                mode += option == 2 ? 1 : 0;
                off += option == 3 ? 1 : 0;
            }
            AdjustmentStack x = new AdjustmentStack();
            int answer = Check.load(x, text.append(" ;").toString());
            boolean possible = opacity <= 1 && mode <= 1 && off <= 1;
            Check.due("\"" + text + "\" is possible", answer == 1 ? 1 : 0, possible ? 1 : 0);
            if (possible) {
                Check.due("opacity of \"" + text + "\"", x.layer(0, 4), opacity == 1 ? 7 : 100);
                Check.due("mode of \"" + text + "\"", x.layer(0, 3), mode == 1 ? 2 : 0);
                Check.due("enabled of \"" + text + "\"", x.layer(0, 5), 1 - off);
            }
        }
    }

    private static void optionsTwice() {
        Check.promise(22, "loadStack");
        fails("invert off ", "off;");
        fails("invert opacity 5 ", "opacity 5;");
        fails("invert mode add ", "mode add;");
        fails("invert off mode add ", "off;");
        fails("invert mode add off ", "mode normal;");
        fails("invert opacity 5 off mode add ", "opacity 6;");
        fails("invert opacity 5 off mode add ", "off;");
        fails("invert opacity 5 off mode add ", "mode add;");
        fails("invert opacity 5 off mode add ", "7;");
        fails("invert opacity 5 off mode add ", "invert;");
        fails("invert opacity 5 off mode add ", "");
        loads("invert off;invert off;", 2);
        loads("invert opacity 5;invert opacity 5;", 2);
        loads("invert mode add;invert mode add;", 2);
    }

    /** Each beginning of a text: it ends too early, or its last word is cut. */
    private static void endsOfTheText() {
        Check.promise(22, "loadStack");
        String text = "offset -1 2 opacity 30 mode subtract off ;levels 1 200 ; stretch;";
        for (int length = 0; length <= text.length(); length++) {
            String beginning = text.substring(0, length);
            String word = beginning.replaceFirst("^.*[^a-z]", "");
            boolean cut = !word.isEmpty() && length < text.length() && Character.isLetter(text.charAt(length));
            if (cut) {
                fails(beginning.substring(0, length - word.length()), word);
            } else if (beginning.trim().isEmpty() || beginning.trim().endsWith(";")) {
                loads(beginning, beginning.replaceAll("[^;]", "").length());
            } else {
                fails(beginning, "");
            }
        }
    }

    private static void eightAndNineLayers() {
        Check.promise(22, "loadStack");
        String eight = "fill 1;invert;".repeat(4);
        loads(eight, 8);
        loads(eight + "   ", 8);
        fails(eight, "invert;");
        fails(eight, "invert");
        fails(eight + " ", "fill 256;");
        fails(eight, "fil");
        fails(eight, "1");
        fails(eight, "-");
        fails(eight, ";");
        fails(eight, "?");
        fails(eight, "007");
        fails(eight.substring(0, eight.length() - 1), "");
        fails(eight.substring(0, eight.length() - 1) + " ", "invert;");
        loads(eight.substring(7), 7);
        loads(eight.substring(7) + "stretch;", 8);
    }

    private static void theFirstErrorCounts() {
        Check.promise(22, "loadStack");
        fails("invert;blur ", "4;blur 4;");
        fails("invert;", "blu 4;blur 4;");
        fails("invert ", "? ?;");
        fails("levels ", "255 1;");
        fails("offset -", "4 -4;");
        fails("offset ", "4 ?;");
        fails("sharpen 3 ", "301 opacity 101;");
        fails("invert opacity ", "101 opacity 1;");
    }

    private static void stateAfterLoading() {
        Check.promise(22, "loadStack");
        AdjustmentStack x = new AdjustmentStack();
        Call.makeAll(x, "newImage 5 6, addLayer 12 9 0, setFeather 0 5, dab 0 1 1 1, invertMask 0, setBlend 0 3 40, "
            + "setEnabled 0 0, addLayer 13 0 0, setTileSize 3, prefetch 1");
        Check.due("loadStack()", Check.load(x, "offset -3 3;"), 1);
        int[] properties = {11, 997, 1003, 0, 100, 1, 3, 0, 0};
        for (int what = 0; what < properties.length; what++) {
            Check.due("layer(0, " + what + ")", x.layer(0, what), properties[what]);
        }
        Check.due("layer(1, 0)", x.layer(1, 0), INVALID);
        Check.due("a new mask", x.maskValue(0, 4, 4), 255);
        Check.due("a new feather", x.setFeather(0, 0), 0);
        Check.due("the base image stays", x.sum(-1), 6 * 17 * 10 + 5 * 29 * 15);
        Check.due("the tiles go", x.clearCache(), 0);
        Check.due("they are not dropped", x.counter(2), 0);
        Check.due("the side of tiles stays", x.size(3), 3);
        Check.due("the text is empty", x.append(';'), 1);
        x.undo();
        Check.due("undo()", x.undo(), 4);
        Check.due("the text is no part of the state", x.clearText(), 1);
        Check.due("the layers again", x.size(2), 2);
        Check.due("their dabs again", x.layer(0, 8), 1);
        Check.due("their masks again", x.maskValue(0, 4, 4), 255);
        Check.due("their masks again", x.maskValue(0, 1, 1), 0);
    }

    private static void stateAfterAnError() {
        Check.promise(22, "loadStack");
        AdjustmentStack x = new AdjustmentStack();
        Call.makeAll(x, "addLayer 12 9 0, dab 0 1 1 1, addLayer 4 0 0, prefetch 1");
        String[] texts = {"invert;invert;fill 256;", "?", "invert", "invert;".repeat(9), " ".repeat(158) + "in"};
        int[] due = {-10 - 19, -10, -16, -10 - 56, -10 - 158};
        for (int i = 0; i < texts.length; i++) {
            x.clearText();
            Check.type(x, texts[i]);
            Check.due("loadStack() of \"" + texts[i] + "\"", x.loadStack(), due[i]);
            Check.due("once more", x.loadStack(), due[i]);
            Check.due("the layers stay", x.size(2), 2);
            Check.due("the bottom one", x.layer(0, 0), 12);
            Check.due("its dabs", x.layer(0, 8), 1);
            Check.due("the tiles", x.cachedTiles(0) + x.cachedTiles(1), 8);
        }
        Check.due("the text is kept", x.clearText(), 160);
        Check.due("nothing is saved", x.undo(), 2);
    }
}
