import java.lang.reflect.InvocationTargetException;
import java.lang.reflect.Method;
import java.util.Arrays;

/** Compares the class with the reference in many runs of calls, which are the same ones each time. */
final class RandomRunsTest {
    private static final int RUNS = 160;
    private static final int CALLS = 500;
    private static final String[] CHANGES = {"newImage", "setPixel", "setPixel", "fillRectangle", "addLayer", "addLayer",
        "addLayer", "addLayer", "setParameters", "setBlend", "setBlend", "setEnabled", "moveLayer", "duplicateLayer",
        "removeLayer", "flatten", "setMask", "setMask", "setMask", "setFeather", "invertMask", "dab", "dab", "undo",
        "save", "restore", "setCacheLimit", "setTileSize", "clearCache"};
    private static final String[] QUESTIONS = {"pixel", "pixel", "pixel", "pixel", "pixel", "prefetch", "size", "layer",
        "maskValue", "isCached", "cachedTiles", "counter", "oldestTile", "histogram", "sum", "effect",
        "strongestLayer", "exchangeDifference", "snapshotDifference"};
    private static final int[] LOWEST_A = {0, -255, 0, 2, 0, 0, 1, 1, 1, 1, 1, -3, 0, 0};
    private static final int[] HIGHEST_A = {254, 255, 400, 16, 0, 256, 3, 2, 3, 3, 3, 3, 255, 0};
    private static final String[] PIECES = {"levels 20 200", "levels 0 1", "brightness -30", "brightness 255",
        "contrast 400", "posterize 16", "invert", "threshold 256", "blur 3", "median 2", "dilate 1", "erode 2",
        "sharpen 1 300", "offset -3 3", "offset 2-1", "fill 255", "stretch", " opacity 0", " opacity100", " mode add",
        " mode subtract", " mode normal", " mode multiply", " mode screen", " mode lighten", " mode darken",
        " mode difference", " off", ";", ";", ";", ";", ";", " ", "-", "7", "07", "x", "blur", "offset -", "opacity",
        "mode", "levels 9 9", "fill 256", "A", "\u00e9", " mode blur", "off off", "invert;", "invert;", "stretch;"};

    private static final int[] WILD = {0, 1, 3, 4, 7, 8, 15, 16, 17, 64, 100, 254, 255, 256, 300, 400, -3, -255,
        65536, 1 << 28, 1 << 30, Integer.MAX_VALUE, Integer.MIN_VALUE};

    private final AdjustmentStack real = new AdjustmentStack();
    private final ReferenceStack reference = new ReferenceStack();
    private final StringBuilder calls = new StringBuilder();
    private long seed;

    private RandomRunsTest(long seed) {
        this.seed = seed * 7919 + 17;
    }

    public static void main(String[] args) {
        for (int run = 1; run <= RUNS; run++) {
            if (!new RandomRunsTest(run).agreesInCalls(run % 4)) {
                break;
            }
            if (!new RandomRunsTest(run + 1000).agreesInTexts()) {
                break;
            }
            if (!new RandomRunsTest(run + 2000).agreesInWildCalls()) {
                break;
            }
        }
        Check.end();
    }

    private int pick(int low, int high) {
        seed = seed * 6364136223846793005L + 1442695040888963407L;
        return low + (int) ((seed >>> 33) % (high - low + 1));
    }

    private boolean agreesInCalls(int changesInTen) {
        for (int i = 0; i < CALLS; i++) {
            boolean change = pick(0, 9) < 2 + 2 * changesInTen || reference.size(2) == 0 && pick(0, 1) == 0;
            String[] names = change ? CHANGES : QUESTIONS;
            String name = names[pick(0, names.length - 1)];
            // Runs would seldom have many layers if they were removed as often as they are added.
            boolean shrinking = name.equals("flatten") || name.equals("removeLayer") || name.equals("restore");
            if (shrinking && pick(0, 2) != 0) {
                continue;
            }
            if (!agrees(name, spoilt(argumentsOf(name)))) {
                return false;
            }
        }
        return true;
    }

    private boolean agreesInTexts() {
        int left = CALLS;
        while (left > 200) {
            StringBuilder text = new StringBuilder();
            int pieces = pick(0, 14);
            for (int i = 0; i < pieces; i++) {
                text.append(PIECES[pick(0, PIECES.length - 1)]);
            }
            int length = Math.min(text.length(), 162);
            for (int i = 0; i < length; i++) {
                if (!agrees("append", (int) text.charAt(i))) {
                    return false;
                }
            }
            if (!agrees("loadStack") || !agrees("strongestLayer") || !agrees("sum", reference.size(2) - 1)
                    || !agrees("undo") || !agrees("clearText") || !agreesInLayers()) {
                return false;
            }
            left -= length + 25;
        }
        return true;
    }

    /** Arguments that are seldom possible; to throw is as wrong as another answer. */
    private boolean agreesInWildCalls() {
        for (int i = 0; i < CALLS; i++) {
            String[] names = pick(0, 1) == 0 ? CHANGES : QUESTIONS;
            String name = names[pick(0, names.length - 1)];
            int[] arguments = argumentsOf(name);
            for (int j = 0; j < arguments.length; j++) {
                if (pick(0, 3) == 0) {
                    arguments[j] = WILD[pick(0, WILD.length - 1)] + pick(-1, 1);
                }
            }
            if (!agrees(name, arguments)) {
                return false;
            }
        }
        return true;
    }

    private boolean agreesInLayers() {
        for (int layer = 0; layer < Math.min(2, reference.size(2)); layer++) {
            for (int what = 0; what <= 8; what++) {
                if (!agrees("layer", layer, what)) {
                    return false;
                }
            }
        }
        return true;
    }

    private boolean agrees(String name, int... arguments) {
        int got = answerOf(real, name, arguments);
        int want = answerOf(reference, name, arguments);
        String call = name + Arrays.toString(arguments);
        calls.append(call).append(" = ").append(want).append('\n');
        if (got != want) {
            System.out.println(calls);
            Check.due(call, got, want);
        }
        return got == want;
    }

    private static int answerOf(Object object, String name, int[] arguments) {
        Class<?>[] types = new Class<?>[arguments.length];
        Object[] values = new Object[arguments.length];
        for (int i = 0; i < arguments.length; i++) {
            types[i] = int.class;
            values[i] = arguments[i];
        }
        try {
            Method method = object.getClass().getDeclaredMethod(name, types);
            return (Integer) method.invoke(object, values);
        } catch (NoSuchMethodException | IllegalAccessException | InvocationTargetException e) {
            throw new IllegalStateException(name, e);
        }
    }

    private int[] spoilt(int[] arguments) {
        if (arguments.length > 0 && pick(0, 29) == 0) {
            int[] wrong = {-1, -2, -4, 8, 16, 17, 256, 301, 1000, Integer.MAX_VALUE, Integer.MIN_VALUE};
            arguments[pick(0, arguments.length - 1)] = wrong[pick(0, wrong.length - 1)];
        }
        return arguments;
    }

    private int anyLayer() {
        return pick(0, Math.max(0, reference.size(2) - 1));
    }

    private int anyX() {
        return pick(0, reference.size(0) - 1);
    }

    private int anyY() {
        return pick(0, reference.size(1) - 1);
    }

    private int[] parametersOf(int kind) {
        int a = pick(LOWEST_A[kind], HIGHEST_A[kind]);
        int b = kind == 0 ? pick(a + 1, 255) : kind == 10 ? pick(0, 300) : kind == 11 ? pick(-3, 3) : 0;
        return new int[] {a, b};
    }

    private int[] maskOf(int layer) {
        int kind = pick(0, 4);
        int c = pick(0, 14);
        int d = pick(0, 15);
        if (kind == 1) {
            return new int[] {layer, kind, c, d, pick(c, 15), pick(d, 15)};
        }
        return kind == 2 ? new int[] {layer, kind, c, 0, pick(c + 1, 15), 0} : new int[] {layer, kind, 0, 0, 0, 0};
    }

    private int[] argumentsOf(String name) {
        int x = anyX();
        int y = anyY();
        int layer = anyLayer();
        switch (name) {
            case "newImage": return new int[] {pick(4, 16), pick(4, 16)};
            case "setPixel": return new int[] {x, y, pick(0, 255)};
            case "fillRectangle":
                return new int[] {x, y, pick(1, reference.size(0) - x), pick(1, reference.size(1) - y), pick(0, 255)};
            case "addLayer": {
                int kind = pick(0, 13);
                int[] parameters = parametersOf(kind);
                return new int[] {kind, parameters[0], parameters[1]};
            }
            case "setParameters": {
                int[] parameters = parametersOf(Math.max(0, reference.layer(layer, 0)));
                return new int[] {layer, parameters[0], parameters[1]};
            }
            case "setBlend": return new int[] {layer, pick(0, 7), pick(0, 2) == 0 ? 100 : pick(0, 100)};
            case "setEnabled": return new int[] {layer, pick(0, 2) == 0 ? 0 : 1};
            case "moveLayer": return new int[] {layer, anyLayer()};
            case "setMask": return maskOf(layer);
            case "setFeather": return new int[] {layer, pick(0, 5)};
            case "dab": return new int[] {layer, pick(0, 15), pick(0, 15), pick(0, 8)};
            case "pixel": case "maskValue": return new int[] {layer, x, y};
            case "setCacheLimit": return new int[] {pick(0, 1) == 0 ? pick(1, 64) : pick(1, 12)};
            case "setTileSize": return new int[] {pick(2, 8)};
            case "size": return new int[] {pick(0, 5)};
            case "layer": return new int[] {layer, pick(0, 8)};
            case "isCached": return new int[] {layer, x / reference.size(3), y / reference.size(3)};
            case "counter": return new int[] {pick(0, 2)};
            case "histogram": {
                int low = pick(0, 255);
                return new int[] {anyLayer() - pick(0, 1), low, pick(low, 255)};
            }
            case "snapshotDifference": case "save": case "restore": return new int[] {pick(0, 1)};
            case "undo": case "clearCache": case "oldestTile": case "strongestLayer": return new int[0];
            default: return new int[] {layer};
        }
    }
}
