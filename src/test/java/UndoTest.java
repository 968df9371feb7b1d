/** Promises 38 to 40: undo and snapshots. */
final class UndoTest {
    private static final int INVALID = AdjustmentStack.INVALID_ARGUMENT;
    private static final int ILLEGAL = AdjustmentStack.ILLEGAL_STATE;

    private UndoTest() {
    }

    public static void main(String[] args) {
        undo();
        sixStates();
        undoOfMasks();
        save();
        restore();
        Check.end();
    }

    private static void undo() {
        Check.promise(38, "undo");
        AdjustmentStack x = new AdjustmentStack();
        Check.due("undo() of nothing", x.undo(), ILLEGAL);
        x.addLayer(4, 0, 0);
        x.prefetch(0);
        x.append('a');
        x.setPixel(0, 0, 77);
        x.setPixel(9, 0, 77);
        x.setEnabled(0, 1);
        x.prefetch(0);
        Check.due("undo()", x.undo(), 1);
        Check.due("pixel(-1, 0, 0)", x.pixel(-1, 0, 0), 0);
        Check.due("all tiles go", x.cachedTiles(0), 0);
        Check.due("the text stays", x.clearText(), 1);
        Check.due("the counters stay", x.counter(0), 5);
        Check.due("nothing was dropped", x.counter(2), 0);
        x.setPixel(1, 0, 5);
        Check.due("undo() of a new change", x.undo(), 1);
        Check.due("undo() of addLayer", x.undo(), 0);
        Check.due("size(2)", x.size(2), 0);
        Check.due("undo() at the end", x.undo(), ILLEGAL);
    }

    private static void sixStates() {
        Check.promise(38, "undo");
        AdjustmentStack x = new AdjustmentStack();
        for (int i = 1; i <= 8; i++) {
            x.setPixel(0, 0, i);
        }
        for (int left = 5; left >= 0; left--) {
            Check.due("undo()", x.undo(), left);
            Check.due("pixel(-1, 0, 0)", x.pixel(-1, 0, 0), left + 2);
        }
        Check.due("undo() of the seventh", x.undo(), ILLEGAL);
        Check.due("pixel(-1, 0, 0) at last", x.pixel(-1, 0, 0), 2);
    }

    private static void undoOfMasks() {
        Check.promise(38, "undo");
        AdjustmentStack x = new AdjustmentStack();
        x.addLayer(4, 0, 0);
        x.setMask(0, 1, 1, 2, 3, 4);
        x.setFeather(0, 2);
        x.invertMask(0);
        x.dab(0, 7, 7, 0);
        Check.due("undo() of dab", x.undo(), 4);
        Check.due("the rectangle again", x.maskValue(0, 1, 2), 0);
        Check.due("beside it", x.maskValue(0, 0, 2), 255 - 170);
        Check.due("undo() of invertMask", x.undo(), 3);
        Check.due("the rectangle", x.maskValue(0, 1, 2), 255);
        Check.due("undo() of setFeather", x.undo(), 2);
        Check.due("beside it, without feather", x.maskValue(0, 0, 2), 0);
        Check.due("undo() of setMask", x.undo(), 1);
        Check.due("no mask", x.maskValue(0, 0, 2), 255);
    }

    private static void save() {
        Check.promise(39, "save");
        AdjustmentStack x = new AdjustmentStack();
        Check.due("save(2)", x.save(2), INVALID);
        Check.due("save(-1)", x.save(-1), INVALID);
        Check.due("save(0)", x.save(0), 0);
        x.addLayer(12, 5, 0);
        x.prefetch(0);
        Check.due("save(1)", x.save(1), 1);
        Check.due("tiles stay", x.cachedTiles(0), 4);
        Check.due("save(0) again", x.save(0), 1);
        x.setParameters(0, 6, 0);
        Check.due("save saves no state for undo", x.undo(), 1);
        Check.due("undo leaves the slots", x.restore(0), 1);
        Check.due("layer(0, 1)", x.layer(0, 1), 1005);
    }

    private static void restore() {
        Check.promise(40, "restore");
        AdjustmentStack x = new AdjustmentStack();
        Check.due("restore(0) of nothing", x.restore(0), ILLEGAL);
        Check.due("restore(2)", x.restore(2), INVALID);
        Check.due("restore(-1)", x.restore(-1), INVALID);
        x.addLayer(12, 5, 0);
        x.dab(0, 3, 3, 1);
        x.save(1);
        x.newImage(4, 5);
        x.addLayer(4, 0, 0);
        x.dab(0, 1, 1, 1);
        x.setTileSize(2);
        x.setCacheLimit(9);
        x.append('b');
        x.prefetch(1);
        Check.due("restore(0)", x.restore(0), ILLEGAL);
        Check.due("a failure discards nothing", x.cachedTiles(1) > 0 ? 1 : 0, 1);
        Check.due("restore(1)", x.restore(1), 1);
        Check.due("width", x.size(0), 8);
        Check.due("dabs", x.layer(0, 8), 1);
        Check.due("tiles", x.cachedTiles(0), 0);
        Check.due("side", x.size(3), 2);
        Check.due("limit", x.size(5), 9);
        Check.due("the text stays", x.clearText(), 1);
        Check.due("states are discarded", x.undo(), ILLEGAL);
        x.setPixel(0, 0, 200);
        x.dab(0, 0, 0, 0);
        Check.due("restore(1) again", x.restore(1), 1);
        Check.due("the slot was not changed", x.pixel(-1, 0, 0), 0);
        Check.due("dabs again", x.layer(0, 8), 1);
        x.setPixel(0, 0, 9);
        x.save(0);
        Check.due("undo()", x.undo(), 0);
        Check.due("restore(0)", x.restore(0), 1);
        Check.due("pixel(-1, 0, 0)", x.pixel(-1, 0, 0), 9);
        Check.due("the other slot", x.restore(1), 1);
        Check.due("pixel(-1, 0, 0) of it", x.pixel(-1, 0, 0), 0);
    }
}
