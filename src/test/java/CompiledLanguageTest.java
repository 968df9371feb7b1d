import java.io.IOException;
import java.util.ArrayList;
import java.util.List;
import java.util.Map;
import java.util.Set;
import java.util.TreeMap;
import java.util.TreeSet;

/** The rules of ../shared/LANGUAGE.md that can be seen in the compiled classes. */
final class CompiledLanguageTest {
    private static final Set<String> LIBRARY = Set.of("java/lang/Object.<init>", "java/lang/String.length",
        "java/lang/String.charAt", "java/lang/Math.abs", "java/lang/Math.min", "java/lang/Math.max",
        "java/lang/Math.floorDiv");
    /** The methods that are allowed to be recursive: a tile requests tiles of lower layers. */
    private static final Set<String> RECURSIVE = Set.of("AdjustmentStack.requestTile", "AdjustmentStack.requestInput");
    private static final int DEEPEST = 8;
    private static final int NEW = 0xbb;
    private static final int NEW_ARRAY = 0xbc;
    private static final int NEW_ARRAY_OF_OBJECTS = 0xbd;
    private static final int THROW = 0xbf;
    private static final int CAST = 0xc0;
    private static final int ENTER_MONITOR = 0xc2;
    private static final int EXIT_MONITOR = 0xc3;
    private static final int INVOKE_DYNAMIC = 0xba;
    private static final int NEW_ARRAY_OF_ARRAYS = 0xc5;

    private final List<ClassFile> files = new ArrayList<>();
    private final Map<String, Set<String>> calls = new TreeMap<>();

    private CompiledLanguageTest() throws IOException {
        files.add(new ClassFile("AdjustmentStack"));
        for (Class<?> inner : AdjustmentStack.class.getDeclaredClasses()) {
            files.add(new ClassFile(inner.getName()));
        }
        for (ClassFile file : files) {
            for (ClassFile.Body body : file.bodies) {
                Set<String> called = calls.computeIfAbsent(file.name + "." + body.name(), name -> new TreeSet<>());
                body.instructions().forEach(instruction -> called.add(instruction.target()));
                called.remove("");
            }
        }
    }

    public static void main(String[] args) throws IOException {
        CompiledLanguageTest test = new CompiledLanguageTest();
        test.library();
        test.instructions();
        test.depths();
        Check.end();
    }

    private void library() {
        Check.description("LANGUAGE 4 and 13");
        Check.holds("there are calls to look at", calls.size() > 100);
        calls.forEach((name, called) -> {
            for (String each : called) {
                Check.holds(name + " calls " + each + ", which it may", calls.containsKey(each) || LIBRARY.contains(each));
            }
        });
    }

    private void instructions() {
        Check.description("LANGUAGE 2, 6, 7 and 12");
        Set<Integer> never = Set.of(THROW, CAST, ENTER_MONITOR, EXIT_MONITOR, INVOKE_DYNAMIC, NEW_ARRAY_OF_ARRAYS);
        Set<Integer> making = Set.of(NEW, NEW_ARRAY, NEW_ARRAY_OF_OBJECTS);
        for (ClassFile file : files) {
            for (ClassFile.Body body : file.bodies) {
                String name = file.name + "." + body.name();
                Check.due("exceptions that " + name + " catches", body.catches(), 0);
                boolean makes = body.name().startsWith("<") || name.equals("AdjustmentStack.save");
                for (ClassFile.Instruction each : body.instructions()) {
                    Check.holds(name + " has no instruction " + each.opcode(), !never.contains(each.opcode()));
                    Check.holds(name + " makes objects only if it may", makes || !making.contains(each.opcode()));
                }
            }
        }
    }

    private void depths() {
        Check.description("LANGUAGE 8 and 11");
        for (String name : calls.keySet()) {
            List<String> longest = longestFrom(name, new TreeSet<>());
            Check.holds("calls go at most " + DEEPEST + " deep: " + longest, longest.size() <= DEEPEST);
            Check.due("recursion of " + name, reaches(name, name, new TreeSet<>()) ? 1 : 0, RECURSIVE.contains(name) ? 1 : 0);
        }
    }

    /** The longest chain of calls in which no method occurs twice. */
    private List<String> longestFrom(String name, Set<String> open) {
        List<String> longest = new ArrayList<>();
        open.add(name);
        for (String each : calls.getOrDefault(name, Set.of())) {
            if (calls.containsKey(each) && !open.contains(each)) {
                List<String> chain = longestFrom(each, open);
                longest = chain.size() > longest.size() ? chain : longest;
            }
        }
        open.remove(name);
        longest.add(0, name);
        return longest;
    }

    private boolean reaches(String from, String name, Set<String> seen) {
        for (String each : calls.getOrDefault(from, Set.of())) {
            if (each.equals(name) || seen.add(each) && reaches(each, name, seen)) {
                return true;
            }
        }
        return false;
    }
}
