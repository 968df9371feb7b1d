import java.util.ArrayList;
import java.util.Arrays;
import java.util.List;

/**
 * The document once more, written for plainness alone: nothing is kept but the state and the list of cached tiles,
 * and every value is computed anew. It serves to check the class with runs of calls.
 */
final class ReferenceStack {
    private static final int INVALID = -1001;
    private static final int ILLEGAL = -1002;
    private static final int FULL = -1003;
    private static final int NONE = -1009;
    private static final String[] KINDS = {"levels", "brightness", "contrast", "posterize", "invert", "threshold",
        "blur", "median", "dilate", "erode", "sharpen", "offset", "fill", "stretch"};
    private static final String[] MODES =
        {"normal", "multiply", "screen", "lighten", "darken", "difference", "add", "subtract"};
    private static final int[] NUMBERS = {2, 1, 1, 1, 0, 1, 1, 1, 1, 1, 2, 2, 1, 0};

    private static final class Adjustment {
        int kind;
        int a;
        int b;
        int mode = 0;
        int opacity = 100;
        boolean on = true;
        int maskKind = 0;
        int[] maskNumbers = {0, 0, 0, 0};
        int feather = 0;
        boolean inverted = false;
        List<int[]> dabs = new ArrayList<>();

        Adjustment copy() {
            Adjustment made = new Adjustment();
            made.kind = kind;
            made.a = a;
            made.b = b;
            made.mode = mode;
            made.opacity = opacity;
            made.on = on;
            made.maskKind = maskKind;
            made.maskNumbers = maskNumbers.clone();
            made.feather = feather;
            made.inverted = inverted;
            made.dabs = new ArrayList<>(dabs);
            return made;
        }

        int reach() {
            if (kind >= 6 && kind <= 10) {
                return a;
            }
            if (kind == 11) {
                return Math.max(Math.abs(a), Math.abs(b));
            }
            return kind == 13 ? 16 : 0;
        }
    }

    private static final class State {
        int[][] base;
        List<Adjustment> layers = new ArrayList<>();

        int width() {
            return base[0].length;
        }

        int height() {
            return base.length;
        }

        State copy() {
            State made = new State();
            made.base = copyOf(base);
            for (Adjustment layer : layers) {
                made.layers.add(layer.copy());
            }
            return made;
        }
    }

    private static final class Refused extends Exception {
        private static final long serialVersionUID = 1L;
        final int position;

        Refused(int position) {
            this.position = position;
        }
    }

    private State state = new State();
    private final List<State> saved = new ArrayList<>();
    private final State[] slots = new State[2];
    private String text = "";
    private int side = 4;
    private int limit = 16;
    /** Cached tiles {layer, column, row}, the one used least recently first. */
    private List<int[]> cached = new ArrayList<>();
    private int computed = 0;
    private int found = 0;
    private int dropped = 0;

    ReferenceStack() {
        state.base = pattern(8, 8);
    }

    private static int[][] pattern(int width, int height) {
        int[][] made = new int[height][width];
        for (int y = 0; y < height; y++) {
            for (int x = 0; x < width; x++) {
                made[y][x] = (17 * x + 29 * y) % 256;
            }
        }
        return made;
    }

    private static int[][] copyOf(int[][] picture) {
        int[][] made = new int[picture.length][];
        for (int y = 0; y < picture.length; y++) {
            made[y] = picture[y].clone();
        }
        return made;
    }

    private static int floor(int number, int divisor) {
        return (int) Math.floor((double) number / divisor);
    }

    private static int clamp(int value) {
        return value < 0 ? 0 : value > 255 ? 255 : value;
    }

    private void keepState() {
        saved.add(state.copy());
        if (saved.size() == 7) {
            saved.remove(0);
        }
    }

    private boolean exists(int layer) {
        return layer >= 0 && layer < state.layers.size();
    }

    private boolean inImage(int x, int y) {
        return x >= 0 && y >= 0 && x < state.width() && y < state.height();
    }

    // What a layer makes of its input

    private static int[] around(int[][] input, int x, int y, int radius) {
        List<Integer> values = new ArrayList<>();
        for (int row = 0; row < input.length; row++) {
            for (int column = 0; column < input[0].length; column++) {
                if (Math.max(Math.abs(row - y), Math.abs(column - x)) <= radius) {
                    values.add(input[row][column]);
                }
            }
        }
        int[] sorted = new int[values.size()];
        for (int i = 0; i < sorted.length; i++) {
            sorted[i] = values.get(i);
        }
        Arrays.sort(sorted);
        return sorted;
    }

    private static int mean(int[] values) {
        return floor(Arrays.stream(values).sum(), values.length);
    }

    private static int adjusted(Adjustment layer, int[][] input, int x, int y) {
        int v = input[y][x];
        int a = layer.a;
        int b = layer.b;
        int[] near = around(input, x, y, layer.kind == 11 ? 0 : layer.reach());
        int low = near[0];
        int high = near[near.length - 1];
        switch (layer.kind) {
            case 0: return v <= a ? 0 : v >= b ? 255 : floor((v - a) * 255, b - a);
            case 1: return clamp(v + a);
            case 2: return clamp(128 + floor((v - 128) * a, 100));
            case 3: return floor(floor(v * a, 256) * 255, a - 1);
            case 4: return 255 - v;
            case 5: return v >= a ? 255 : 0;
            case 6: return mean(near);
            case 7: return near[(near.length - 1) / 2];
            case 8: return high;
            case 9: return low;
            case 10: return clamp(v + floor((v - mean(near)) * b, 100));
            case 11: {
                int column = Math.max(0, Math.min(input[0].length - 1, x - a));
                int row = Math.max(0, Math.min(input.length - 1, y - b));
                return input[row][column];
            }
            case 12: return a;
            default: return low == high ? v : floor((v - low) * 255, high - low);
        }
    }

    private static int blended(int mode, int v, int n) {
        switch (mode) {
            case 0: return n;
            case 1: return floor(v * n, 255);
            case 2: return 255 - floor((255 - v) * (255 - n), 255);
            case 3: return v > n ? v : n;
            case 4: return v < n ? v : n;
            case 5: return v > n ? v - n : n - v;
            case 6: return clamp(v + n);
            default: return clamp(v - n);
        }
    }

    private static int weight(Adjustment layer, int x, int y, int v) {
        int[] m = layer.maskNumbers;
        int w = 255;
        if (layer.maskKind == 1) {
            int g = Integer.MAX_VALUE;
            for (int row = m[1]; row <= m[3]; row++) {
                for (int column = m[0]; column <= m[2]; column++) {
                    g = Math.min(g, Math.max(Math.abs(row - y), Math.abs(column - x)));
                }
            }
            w = g == 0 ? 255 : g <= layer.feather ? floor(255 * (layer.feather + 1 - g), layer.feather + 1) : 0;
        } else if (layer.maskKind == 2) {
            w = x <= m[0] ? 0 : x >= m[2] ? 255 : floor(255 * (x - m[0]), m[2] - m[0]);
        } else if (layer.maskKind == 3) {
            w = v;
        } else if (layer.maskKind == 4) {
            w = 0;
            for (int[] dab : layer.dabs) {
                if ((x - dab[0]) * (x - dab[0]) + (y - dab[1]) * (y - dab[1]) <= dab[2] * dab[2]) {
                    w = 255;
                }
            }
        }
        return layer.inverted ? 255 - w : w;
    }

    private static int[][] outputOf(State of, int layer) {
        int[][] present = copyOf(of.base);
        for (int i = 0; i <= layer; i++) {
            Adjustment adjustment = of.layers.get(i);
            if (!adjustment.on) {
                continue;
            }
            int[][] next = copyOf(present);
            for (int y = 0; y < present.length; y++) {
                for (int x = 0; x < present[0].length; x++) {
                    int v = present[y][x];
                    int t = blended(adjustment.mode, v, adjusted(adjustment, present, x, y));
                    int w = weight(adjustment, x, y, v);
                    next[y][x] = v + floor((t - v) * adjustment.opacity * w, 25500);
                }
            }
            present = next;
        }
        return present;
    }

    // The cache

    private int columns() {
        return (state.width() + side - 1) / side;
    }

    private int rows() {
        return (state.height() + side - 1) / side;
    }

    private int place(int layer, int column, int row) {
        for (int i = 0; i < cached.size(); i++) {
            if (Arrays.equals(cached.get(i), new int[] {layer, column, row})) {
                return i;
            }
        }
        return -1;
    }

    private boolean near(int column, int row, int otherColumn, int otherRow, int reach) {
        for (int y = row * side; y < (row + 1) * side && y < state.height(); y++) {
            for (int x = column * side; x < (column + 1) * side && x < state.width(); x++) {
                for (int v = otherRow * side; v < (otherRow + 1) * side && v < state.height(); v++) {
                    for (int u = otherColumn * side; u < (otherColumn + 1) * side && u < state.width(); u++) {
                        if (Math.max(Math.abs(x - u), Math.abs(y - v)) <= reach) {
                            return true;
                        }
                    }
                }
            }
        }
        return false;
    }

    private void request(int layer, int column, int row) {
        if (layer < 0) {
            return;
        }
        if (!state.layers.get(layer).on) {
            request(layer - 1, column, row);
            return;
        }
        int place = place(layer, column, row);
        if (place >= 0) {
            found++;
            cached.add(cached.remove(place));
            return;
        }
        int below = layer - 1;
        while (below >= 0 && !state.layers.get(below).on) {
            below--;
        }
        for (int r = 0; below >= 0 && r < rows(); r++) {
            for (int c = 0; c < columns(); c++) {
                if (near(column, row, c, r, state.layers.get(layer).reach())) {
                    request(below, c, r);
                }
            }
        }
        computed++;
        cached.add(new int[] {layer, column, row});
    }

    private int drop() {
        int count = 0;
        while (cached.size() > limit) {
            cached.remove(0);
            count++;
        }
        dropped += count;
        return count;
    }

    private int forget(int lowestLayer) {
        int before = cached.size();
        cached.removeIf(tile -> tile[0] >= lowestLayer);
        return before - cached.size();
    }

    private Adjustment change(int layer) {
        keepState();
        forget(layer);
        return state.layers.get(layer);
    }

    // The face

    int newImage(int width, int height) {
        if (width < 4 || width > 16 || height < 4 || height > 16) {
            return INVALID;
        }
        keepState();
        forget(0);
        state.base = pattern(width, height);
        return width * height;
    }

    int setPixel(int x, int y, int value) {
        return fillRectangle(x, y, 1, 1, value);
    }

    int fillRectangle(int x, int y, int width, int height, int value) {
        if (!inImage(x, y) || width < 1 || height < 1 || (long) x + width > state.width()
                || (long) y + height > state.height() || value < 0 || value > 255) {
            return INVALID;
        }
        keepState();
        boolean[][] touched = new boolean[state.height()][state.width()];
        for (int v = y; v < y + height; v++) {
            for (int u = x; u < x + width; u++) {
                state.base[v][u] = value;
                touched[v][u] = true;
            }
        }
        int removed = 0;
        for (int i = 0; i < state.layers.size(); i++) {
            if (state.layers.get(i).on) {
                touched = extended(touched, state.layers.get(i).reach());
                removed += forgetTouched(i, touched);
            }
        }
        return removed;
    }

    private static boolean[][] extended(boolean[][] touched, int reach) {
        boolean[][] made = new boolean[touched.length][touched[0].length];
        for (int y = 0; y < made.length; y++) {
            for (int x = 0; x < made[0].length; x++) {
                for (int v = Math.max(0, y - reach); v <= Math.min(made.length - 1, y + reach); v++) {
                    for (int u = Math.max(0, x - reach); u <= Math.min(made[0].length - 1, x + reach); u++) {
                        made[y][x] |= touched[v][u];
                    }
                }
            }
        }
        return made;
    }

    private int forgetTouched(int layer, boolean[][] touched) {
        List<int[]> kept = new ArrayList<>();
        for (int[] tile : cached) {
            boolean hit = false;
            for (int y = tile[2] * side; y < (tile[2] + 1) * side && y < state.height(); y++) {
                for (int x = tile[1] * side; x < (tile[1] + 1) * side && x < state.width(); x++) {
                    hit |= touched[y][x];
                }
            }
            if (tile[0] != layer || !hit) {
                kept.add(tile);
            }
        }
        int removed = cached.size() - kept.size();
        cached = kept;
        return removed;
    }

    int size(int what) {
        int[] sizes = {state.width(), state.height(), state.layers.size(), side, columns() * rows(), limit};
        return what < 0 || what > 5 ? INVALID : sizes[what];
    }

    private static boolean range(int value, int low, int high) {
        return low <= value && value <= high;
    }

    private static int[] rangeOf(int kind, boolean second, int a) {
        if (second) {
            return kind == 0 ? new int[] {a + 1, 255} : kind == 10 ? new int[] {0, 300}
                : kind == 11 ? new int[] {-3, 3} : new int[] {0, 0};
        }
        switch (kind) {
            case 0: return new int[] {0, 254};
            case 1: return new int[] {-255, 255};
            case 2: return new int[] {0, 400};
            case 3: return new int[] {2, 16};
            case 5: return new int[] {0, 256};
            case 6: case 8: case 9: case 10: return new int[] {1, 3};
            case 7: return new int[] {1, 2};
            case 11: return new int[] {-3, 3};
            case 12: return new int[] {0, 255};
            default: return new int[] {0, 0};
        }
    }

    private static boolean possible(int kind, int a, int b) {
        if (!range(kind, 0, 13)) {
            return false;
        }
        int[] first = rangeOf(kind, false, 0);
        if (!range(a, first[0], first[1])) {
            return false;
        }
        int[] second = rangeOf(kind, true, a);
        return range(b, second[0], second[1]);
    }

    int addLayer(int kind, int a, int b) {
        if (!possible(kind, a, b)) {
            return INVALID;
        }
        if (state.layers.size() == 8) {
            return FULL;
        }
        keepState();
        state.layers.add(made(kind, a, b));
        return state.layers.size() - 1;
    }

    private static Adjustment made(int kind, int a, int b) {
        Adjustment made = new Adjustment();
        made.kind = kind;
        made.a = a;
        made.b = b;
        return made;
    }

    int setParameters(int layer, int a, int b) {
        if (!exists(layer) || !possible(state.layers.get(layer).kind, a, b)) {
            return INVALID;
        }
        Adjustment changed = change(layer);
        int previous = changed.a;
        changed.a = a;
        changed.b = b;
        return previous + 1000;
    }

    int setBlend(int layer, int mode, int opacity) {
        if (!exists(layer) || !range(mode, 0, 7) || !range(opacity, 0, 100)) {
            return INVALID;
        }
        Adjustment changed = change(layer);
        int previous = changed.opacity;
        changed.mode = mode;
        changed.opacity = opacity;
        return previous;
    }

    int setEnabled(int layer, int on) {
        if (!exists(layer) || !range(on, 0, 1)) {
            return INVALID;
        }
        if (state.layers.get(layer).on == (on == 1)) {
            return ILLEGAL;
        }
        change(layer).on = on == 1;
        int count = 0;
        for (Adjustment each : state.layers) {
            count += each.on ? 1 : 0;
        }
        return count;
    }

    int moveLayer(int from, int to) {
        if (!exists(from) || !exists(to) || from == to) {
            return INVALID;
        }
        change(Math.min(from, to));
        state.layers.add(to, state.layers.remove(from));
        return state.layers.get(to).kind;
    }

    int duplicateLayer(int layer) {
        if (!exists(layer)) {
            return INVALID;
        }
        if (state.layers.size() == 8) {
            return FULL;
        }
        keepState();
        forget(layer + 1);
        state.layers.add(layer + 1, state.layers.get(layer).copy());
        return layer + 1;
    }

    int removeLayer(int layer) {
        if (!exists(layer)) {
            return INVALID;
        }
        change(layer);
        state.layers.remove(layer);
        return state.layers.size();
    }

    int flatten(int layer) {
        if (!exists(layer)) {
            return INVALID;
        }
        keepState();
        state.base = outputOf(state, layer);
        for (int i = 0; i <= layer; i++) {
            state.layers.remove(0);
        }
        cached.removeIf(tile -> tile[0] <= layer);
        for (int[] tile : cached) {
            tile[0] -= layer + 1;
        }
        return state.layers.size();
    }

    int layer(int layer, int what) {
        if (!exists(layer) || !range(what, 0, 8)) {
            return INVALID;
        }
        Adjustment asked = state.layers.get(layer);
        return new int[] {asked.kind, asked.a + 1000, asked.b + 1000, asked.mode, asked.opacity, asked.on ? 1 : 0,
            asked.reach(), asked.maskKind, asked.dabs.size()}[what];
    }

    private static boolean possibleMask(int kind, int c, int d, int e, int f) {
        switch (kind) {
            case 1: return range(c, 0, 15) && range(d, 0, 15) && range(e, c, 15) && range(f, d, 15);
            case 2: return range(c, 0, 14) && range(e, c + 1, 15) && d == 0 && f == 0;
            default: return range(kind, 0, 4) && c == 0 && d == 0 && e == 0 && f == 0;
        }
    }

    int setMask(int layer, int kind, int c, int d, int e, int f) {
        if (!exists(layer) || !possibleMask(kind, c, d, e, f)) {
            return INVALID;
        }
        Adjustment changed = change(layer);
        int previous = changed.maskKind;
        changed.maskKind = kind;
        changed.maskNumbers = new int[] {c, d, e, f};
        return previous;
    }

    int setFeather(int layer, int feather) {
        if (!exists(layer) || !range(feather, 0, 5)) {
            return INVALID;
        }
        Adjustment changed = change(layer);
        int previous = changed.feather;
        changed.feather = feather;
        return previous;
    }

    int invertMask(int layer) {
        if (!exists(layer)) {
            return INVALID;
        }
        Adjustment changed = change(layer);
        changed.inverted = !changed.inverted;
        return changed.inverted ? 1 : 0;
    }

    int dab(int layer, int x, int y, int radius) {
        if (!exists(layer) || !range(x, 0, 15) || !range(y, 0, 15) || !range(radius, 0, 8)) {
            return INVALID;
        }
        if (state.layers.get(layer).dabs.size() == 6) {
            return FULL;
        }
        Adjustment changed = change(layer);
        changed.maskKind = 4;
        changed.maskNumbers = new int[4];
        changed.dabs.add(new int[] {x, y, radius});
        return changed.dabs.size();
    }

    int maskValue(int layer, int x, int y) {
        if (!exists(layer) || !inImage(x, y)) {
            return INVALID;
        }
        return weight(state.layers.get(layer), x, y, outputOf(state, layer - 1)[y][x]);
    }

    int append(int character) {
        if (!range(character, 1, 255)) {
            return INVALID;
        }
        if (text.length() == 160) {
            return FULL;
        }
        text += (char) character;
        return text.length();
    }

    int clearText() {
        int previous = text.length();
        text = "";
        return previous;
    }

    /** Tokens with their offsets; "?" is put before one that is never allowed. */
    private static void cut(String text, List<String> tokens, List<Integer> offsets) {
        int i = 0;
        while (i < text.length()) {
            int j = i + 1;
            String rest = text.substring(i);
            if (rest.charAt(0) == ' ') {
                i++;
                continue;
            }
            if (rest.matches("(?s)[a-z].*")) {
                j = i + rest.length() - rest.replaceFirst("^[a-z]+", "").length();
            } else if (rest.matches("(?s)[0-9].*")) {
                j = i + rest.length() - rest.replaceFirst("^[0-9]+", "").length();
            }
            String token = text.substring(i, j);
            boolean allowed = token.matches("[a-z]+|0|[1-9][0-9]?[0-9]?|-|;");
            tokens.add(allowed ? token : "?" + token);
            offsets.add(i);
            i = j;
        }
        tokens.add("");
        offsets.add(text.length());
    }

    private static List<Adjustment> parsed(String text) throws Refused {
        List<String> tokens = new ArrayList<>();
        List<Integer> offsets = new ArrayList<>();
        cut(text, tokens, offsets);
        List<Adjustment> layers = new ArrayList<>();
        int[] at = {0};
        while (!tokens.get(at[0]).isEmpty()) {
            int kind = Arrays.asList(KINDS).indexOf(tokens.get(at[0]));
            if (layers.size() == 8 || kind < 0) {
                throw new Refused(offsets.get(at[0]));
            }
            at[0]++;
            Adjustment layer = made(kind, 0, 0);
            if (NUMBERS[kind] > 0) {
                layer.a = number(tokens, offsets, at, rangeOf(kind, false, 0));
            }
            if (NUMBERS[kind] > 1) {
                layer.b = number(tokens, offsets, at, rangeOf(kind, true, layer.a));
            }
            List<String> present = new ArrayList<>();
            while (!tokens.get(at[0]).equals(";")) {
                option(tokens, offsets, at, layer, present);
            }
            at[0]++;
            layers.add(layer);
        }
        return layers;
    }

    private static void option(List<String> tokens, List<Integer> offsets, int[] at, Adjustment layer,
            List<String> present) throws Refused {
        String option = tokens.get(at[0]);
        if (present.contains(option)) {
            throw new Refused(offsets.get(at[0]));
        }
        present.add(option);
        if (option.equals("off")) {
            layer.on = false;
            at[0]++;
        } else if (option.equals("mode")) {
            at[0]++;
            layer.mode = Arrays.asList(MODES).indexOf(tokens.get(at[0]));
            if (layer.mode < 0) {
                throw new Refused(offsets.get(at[0]));
            }
            at[0]++;
        } else if (option.equals("opacity")) {
            at[0]++;
            layer.opacity = number(tokens, offsets, at, new int[] {0, 100});
        } else {
            throw new Refused(offsets.get(at[0]));
        }
    }

    private static int number(List<String> tokens, List<Integer> offsets, int[] at, int[] range) throws Refused {
        int sign = 1;
        if (tokens.get(at[0]).equals("-") && range[0] < 0) {
            sign = -1;
            at[0]++;
        }
        String digits = tokens.get(at[0]);
        if (!digits.matches("[0-9]+") || !range(sign * Integer.parseInt(digits), range[0], range[1])) {
            throw new Refused(offsets.get(at[0]));
        }
        at[0]++;
        return sign * Integer.parseInt(digits);
    }

    int loadStack() {
        List<Adjustment> layers;
        try {
            layers = parsed(text);
        } catch (Refused refused) {
            return -10 - refused.position;
        }
        keepState();
        forget(0);
        state.layers = layers;
        text = "";
        return layers.size();
    }

    int pixel(int layer, int x, int y) {
        if (layer < -1 || layer >= state.layers.size() || !inImage(x, y)) {
            return INVALID;
        }
        request(layer, x / side, y / side);
        drop();
        return outputOf(state, layer)[y][x];
    }

    int prefetch(int layer) {
        if (!exists(layer)) {
            return INVALID;
        }
        int before = computed;
        for (int r = 0; r < rows(); r++) {
            for (int c = 0; c < columns(); c++) {
                request(layer, c, r);
            }
        }
        drop();
        return computed - before;
    }

    int setCacheLimit(int newLimit) {
        if (!range(newLimit, 1, 64)) {
            return INVALID;
        }
        limit = newLimit;
        return drop();
    }

    int setTileSize(int newSide) {
        if (!range(newSide, 2, 8)) {
            return INVALID;
        }
        side = newSide;
        return forget(0);
    }

    int clearCache() {
        return forget(0);
    }

    int isCached(int layer, int column, int row) {
        if (!exists(layer) || !range(column, 0, columns() - 1) || !range(row, 0, rows() - 1)) {
            return INVALID;
        }
        return place(layer, column, row) >= 0 ? 1 : 0;
    }

    int cachedTiles(int layer) {
        return exists(layer) ? (int) cached.stream().filter(tile -> tile[0] == layer).count() : INVALID;
    }

    int counter(int what) {
        return range(what, 0, 2) ? new int[] {computed, found, dropped}[what] : INVALID;
    }

    int oldestTile() {
        if (cached.isEmpty()) {
            return NONE;
        }
        int[] tile = cached.get(0);
        return 1000 * tile[0] + 10 * tile[1] + tile[2];
    }

    private static int[] flat(int[][] picture) {
        return Arrays.stream(picture).flatMapToInt(Arrays::stream).toArray();
    }

    private static int[] top(State of) {
        return flat(outputOf(of, of.layers.size() - 1));
    }

    private static int differing(int[] one, int[] other) {
        int count = 0;
        for (int i = 0; i < one.length; i++) {
            count += one[i] == other[i] ? 0 : 1;
        }
        return count;
    }

    int histogram(int layer, int low, int high) {
        if (layer < -1 || layer >= state.layers.size() || !range(low, 0, 255) || !range(high, low, 255)) {
            return INVALID;
        }
        return (int) Arrays.stream(flat(outputOf(state, layer))).filter(v -> v >= low && v <= high).count();
    }

    int sum(int layer) {
        return layer < -1 || layer >= state.layers.size() ? INVALID
            : Arrays.stream(flat(outputOf(state, layer))).sum();
    }

    int effect(int layer) {
        if (!exists(layer)) {
            return INVALID;
        }
        State without = state.copy();
        without.layers.get(layer).on = false;
        int[] one = top(state);
        int[] other = top(without);
        int total = 0;
        for (int i = 0; i < one.length; i++) {
            total += Math.abs(one[i] - other[i]);
        }
        return total;
    }

    int strongestLayer() {
        int best = NONE;
        for (int i = state.layers.size() - 1; i >= 0; i--) {
            if (best == NONE || effect(i) >= effect(best)) {
                best = i;
            }
        }
        return best;
    }

    int exchangeDifference(int layer) {
        if (!exists(layer) || !exists(layer + 1)) {
            return INVALID;
        }
        State exchanged = state.copy();
        exchanged.layers.add(layer, exchanged.layers.remove(layer + 1));
        return differing(top(state), top(exchanged));
    }

    int snapshotDifference(int slot) {
        if (!range(slot, 0, 1)) {
            return INVALID;
        }
        State other = slots[slot];
        if (other == null || other.width() != state.width() || other.height() != state.height()) {
            return ILLEGAL;
        }
        return differing(top(state), top(other));
    }

    int undo() {
        if (saved.isEmpty()) {
            return ILLEGAL;
        }
        state = saved.remove(saved.size() - 1);
        forget(0);
        return saved.size();
    }

    int save(int slot) {
        if (!range(slot, 0, 1)) {
            return INVALID;
        }
        slots[slot] = state.copy();
        return state.layers.size();
    }

    int restore(int slot) {
        if (!range(slot, 0, 1)) {
            return INVALID;
        }
        if (slots[slot] == null) {
            return ILLEGAL;
        }
        state = slots[slot].copy();
        saved.clear();
        forget(0);
        return state.layers.size();
    }
}
