/** The states of an object in which the limits of arguments are tried. */
enum State {
    /** No layers, no tiles, no text, no saved states, no snapshots. */
    NEW(""),
    /** The bottom layer is the top one. */
    ONE_LAYER("newImage 4 4, addLayer 1 30 0, save 0, prefetch 0"),
    /** The greatest image and as many tiles as are possible. */
    LARGE("newImage 16 16, setTileSize 2, setCacheLimit 64, addLayer 1 3 0, addLayer 12 9 0, prefetch 0"),
    /** Layers, one of which is not enabled, masks, tiles, a text, saved states, and a snapshot of another size. */
    RICH("save 1, newImage 6 5, setTileSize 2, setCacheLimit 12, fillRectangle 0 0 2 3 200, addLayer 1 40 0, "
        + "addLayer 6 1 0, addLayer 11 2 -1, addLayer 12 90 0, setMask 1 1 1 1 3 2, setFeather 1 1, dab 2 3 3 2, "
        + "invertMask 2, setMask 3 3 0 0 0 0, save 0, restore 0, setBlend 2 5 60, setPixel 5 4 7, setEnabled 3 0, "
        + "prefetch 3, pixel 2 5 4, pixel 1 5 0"),
    /** No room for a layer, for a character, for a dab on the top layer, for a state or for a tile. */
    FULL("newImage 5 4, setTileSize 2, setCacheLimit 9, addLayer 1 40 0, addLayer 0 10 200, save 1, addLayer 2 150 0, "
        + "addLayer 7 1 0, addLayer 10 1 200, addLayer 4 0 0, addLayer 13 0 0, addLayer 12 90 0, setEnabled 5 0, "
        + "setMask 6 2 1 0 4 0, setBlend 7 3 70, setFeather 7 5, dab 7 0 0 1, dab 7 4 0 0, dab 7 2 2 1, dab 7 4 3 0, "
        + "dab 7 0 3 0, dab 7 15 15 8, prefetch 7, pixel 7 0 0, pixel 4 4 3");

    private static final String TYPED = "blur 2 opacity 3";
    private static final String FULL_TEXT = "sharpen 1 200 opacity 40 mode subtract off;";

    private final String calls;

    State(String calls) {
        this.calls = calls;
    }

    void make(Object stack) {
        Call.makeAll(stack, calls);
        if (this == RICH) {
            type(stack, TYPED);
        } else if (this == FULL) {
            type(stack, " ".repeat(160 - 3 * FULL_TEXT.length()) + FULL_TEXT.repeat(3));
        }
    }

    private static void type(Object stack, String text) {
        for (int i = 0; i < text.length(); i++) {
            new Call("append", text.charAt(i)).on(stack);
        }
    }
}
