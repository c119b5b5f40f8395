import java.util.ArrayList;
import java.util.List;
import java.util.TreeSet;
import java.util.function.Supplier;
import java.util.function.ToIntFunction;

/**
 * "No question changes anything. A refused call changes nothing.": in an empty, a common, a deep and a full tree each
 * call, with good arguments and bad, and after each question and each refused call everything answers as before.
 */
public final class UnchangedTest extends Checks {
    private static final int[] ENTRIES = withEnds(24);
    private static final int[] SOME_ENTRIES = {LEAST, -1, 0, 1, 2, 3, 4, 5, 6, 7, 11, 19, 22, 23, 24, MOST};
    private static final int[] NAMES = withEnds(8);
    private static final int[] SNAPSHOTS = withEnds(3);
    private static final int[] PLACES = {LEAST, -1, 0, 1, 2, 5, 22, 23, 24, 45, 46, 47, MOST};
    private static final int[] PATHS = {LEAST, -8, -1, 0, 1, 2, 3, 8, 9, 10, 15, 80, 91, 820, 7381, 7382, 59048, 59049,
        MOST};
    // Which refusals the calls have met: a refusal that none meets would not be tested here.
    private static final TreeSet<String> met = new TreeSet<>();

    /** All good values 0 .. count - 1, their neighbours and the ends of int. */
    private static int[] withEnds(int count) {
        int[] values = new int[count + 4];
        values[0] = LEAST;
        for (int i = 1; i < count + 3; i++) {
            values[i] = i - 2;
        }
        values[count + 3] = MOST;
        return values;
    }

    private final String scene;
    private final Supplier<TreeHasher> maker;
    private final List<Integer> before;

    private UnchangedTest(String scene, Supplier<TreeHasher> maker) {
        this.scene = scene;
        this.maker = maker;
        before = answers(maker.get(), maker.get());
        if (!before.equals(answers(maker.get(), maker.get()))) {
            fail(scene + ": the same calls on new objects answer otherwise");
        }
    }

    public static void main(String[] args) {
        new UnchangedTest("empty tree", TreeHasher::new).all();
        new UnchangedTest("common tree", UnchangedTest::common).all();
        new UnchangedTest("deep tree", UnchangedTest::deep).all();
        new UnchangedTest("full tree", UnchangedTest::fullAndSaved).all();
        new UnchangedTest("emptied tree", UnchangedTest::emptied).all();
        metAll();
        end();
    }

    /** Two directories and files with the same contents, other trees in the snapshots, and a number left free. */
    private static TreeHasher common() {
        TreeHasher x = new TreeHasher();
        x.directory(0, 0);
        x.file(1, 5, 70);
        x.directory(0, 2);
        x.file(3, 5, 70);
        x.save(2);
        x.file(0, 7, -4);
        x.directory(3, 0);
        x.file(6, 3, -4);
        x.save(0);
        x.remove(2);
        x.write(5, 0);
        return x;
    }

    /** Two branches down to depth 5, the second made in falling numbers. */
    private static TreeHasher deep() {
        TreeHasher x = new TreeHasher();
        for (int entry = 1; entry <= 5; entry++) {
            x.directory(entry - 1, 0);
        }
        x.file(4, 1, 3);
        x.save(0);
        for (int entry = 7; entry <= 11; entry++) {
            x.directory(0, entry - 4);
        }
        for (int entry = 10; entry >= 7; entry--) {
            x.move(entry, entry + 1, 2);
        }
        x.file(8, 3, 3);
        x.save(1);
        x.remove(5);
        x.save(2);
        x.write(6, 4);
        x.directory(4, 0);
        return x;
    }

    /** 24 entries; the snapshots have 23 paths, 23 others, and none. */
    private static TreeHasher fullAndSaved() {
        TreeHasher x = new TreeHasher();
        for (int name = 0; name < 3; name++) {
            x.directory(0, name + 4);
        }
        for (int entry = 4; entry < 24; entry++) {
            x.file(1 + (entry - 4) / 8, (entry - 4) % 8, entry / 2);
        }
        x.save(1);
        for (int entry = 1; entry < 4; entry++) {
            x.move(entry, 0, entry - 1);
        }
        x.save(0);
        x.write(23, LEAST);
        return x;
    }

    /** What the full tree was is in snapshot 1 only, and the tree has none of it. */
    private static TreeHasher emptied() {
        TreeHasher x = fullAndSaved();
        x.restore(2);
        x.save(0);
        return x;
    }

    /** Everything that two objects in the same state answer; the second one's tree is lost by it. */
    private static List<Integer> answers(TreeHasher x, TreeHasher y) {
        List<Integer> answers = new ArrayList<>();
        tree(x, answers);
        compared(x, answers);
        for (int name = 7; name >= 0; name--) {
            answers.add(x.file(0, name, 5));
        }
        for (int snapshot = 0; snapshot < 3; snapshot++) {
            answers.add(y.restore(snapshot));
            tree(y, answers);
        }
        // What an object answers after 512 calls is free; making a tree and a row of calls take some hundred.
        if (answers.size() > 400) {
            fail("the test itself makes too many calls: " + answers.size());
        }
        return answers;
    }

    private static void tree(TreeHasher x, List<Integer> answers) {
        answers.add(x.entries());
        for (int entry = 0; entry < 24; entry++) {
            answers.add(x.kind(entry));
            answers.add(x.content(entry));
            answers.add(x.path(entry));
        }
    }

    private static void compared(TreeHasher x, List<Integer> answers) {
        for (int path : PATHS) {
            answers.add(x.lookup(path));
        }
        for (int entry = 0; entry < 24; entry += 4) {
            answers.add(x.twins(entry));
            answers.add(x.alike(entry, entry + 1));
        }
        for (int a = 0; a < 3; a++) {
            int b = (a + 1) % 3;
            int count = x.differing(a, b);
            answers.add(count);
            answers.add(x.difference(a, b, 0));
            answers.add(x.difference(a, b, count - 1));
            answers.add(x.difference(a, b, count));
            answers.add(x.changed(a));
            answers.add(x.repeated(a));
        }
    }

    private void question(String call, ToIntFunction<TreeHasher> asked) {
        TreeHasher twice = maker.get();
        int answer = asked.applyAsInt(twice);
        if (asked.applyAsInt(twice) != answer) {
            fail(scene + ": " + call + " answers otherwise when asked again");
        }
        unchanged(call, answer, asked);
    }

    /** A call that changes something unless it is refused; done calls answer 0 or more. */
    private void change(String call, ToIntFunction<TreeHasher> asked) {
        int answer = asked.applyAsInt(maker.get());
        if (answer < 0) {
            met.add(call.substring(0, call.indexOf('(')) + " " + answer);
            unchanged(call, answer, asked);
        }
    }

    private void unchanged(String call, int answer, ToIntFunction<TreeHasher> asked) {
        TreeHasher x = maker.get();
        TreeHasher y = maker.get();
        if (asked.applyAsInt(x) != answer || asked.applyAsInt(y) != answer) {
            fail(scene + ": " + call + " answers otherwise on another object");
        }
        if (!answers(x, y).equals(before)) {
            fail(scene + ": after " + call + ", which answered " + answer + ", something has changed");
        }
    }

    private void all() {
        makes();
        writesAndRemoves();
        moves();
        savesAndRestores();
        questionsOfEntries();
        questionsOfSnapshots();
        manyInARow();
    }

    private void makes() {
        for (int parent : ENTRIES) {
            for (int name : NAMES) {
                change("directory(" + parent + ", " + name + ")", x -> x.directory(parent, name));
                change("file(" + parent + ", " + name + ", 99)", x -> x.file(parent, name, 99));
            }
        }
    }

    private void writesAndRemoves() {
        for (int entry : ENTRIES) {
            for (int content : CONTENTS) {
                change("write(" + entry + ", " + content + ")", x -> x.write(entry, content));
            }
            change("remove(" + entry + ")", x -> x.remove(entry));
        }
    }

    private void moves() {
        for (int entry : SOME_ENTRIES) {
            for (int parent : SOME_ENTRIES) {
                for (int name : NAMES) {
                    change("move(" + entry + ", " + parent + ", " + name + ")", x -> x.move(entry, parent, name));
                }
            }
        }
    }

    private void savesAndRestores() {
        for (int snapshot : SNAPSHOTS) {
            change("save(" + snapshot + ")", x -> x.save(snapshot));
            change("restore(" + snapshot + ")", x -> x.restore(snapshot));
        }
    }

    private void questionsOfEntries() {
        question("entries()", TreeHasher::entries);
        for (int entry : ENTRIES) {
            question("kind(" + entry + ")", x -> x.kind(entry));
            question("content(" + entry + ")", x -> x.content(entry));
            question("path(" + entry + ")", x -> x.path(entry));
            question("twins(" + entry + ")", x -> x.twins(entry));
            for (int other : ENTRIES) {
                question("alike(" + entry + ", " + other + ")", x -> x.alike(entry, other));
            }
        }
        for (int path : PATHS) {
            question("lookup(" + path + ")", x -> x.lookup(path));
        }
    }

    private void questionsOfSnapshots() {
        for (int a : SNAPSHOTS) {
            question("changed(" + a + ")", x -> x.changed(a));
            question("repeated(" + a + ")", x -> x.repeated(a));
            for (int b : SNAPSHOTS) {
                question("differing(" + a + ", " + b + ")", x -> x.differing(a, b));
                for (int i : PLACES) {
                    question("difference(" + a + ", " + b + ", " + i + ")", x -> x.difference(a, b, i));
                }
            }
        }
    }

    /** What one call leaves as it is, some twenty of them may still wear away. */
    private void manyInARow() {
        ToIntFunction<TreeHasher> row = x -> {
            int sum = x.directory(24, 0) + x.file(0, 8, 1) + x.write(0, 5) + x.remove(0) + x.move(0, 0, 0);
            sum += x.remove(-1) + x.write(24, 5) + x.save(3) + x.restore(-1) + x.restore(3) + x.save(-1);
            sum += x.twins(0) + x.alike(0, 0) + x.changed(1) + x.differing(0, 1) + x.difference(1, 2, 0);
            return sum + x.repeated(0) + x.lookup(1) + x.path(1) + x.kind(1) + x.content(1) + x.entries();
        };
        question("a row of refused calls and questions", row);
    }

    private static void metAll() {
        String[] calls = {"directory 6", "file 6", "write 2", "remove 2", "move 6", "save 1", "restore 1"};
        for (String call : calls) {
            String[] parts = call.split(" ");
            for (int refusal = 1; refusal <= Integer.parseInt(parts[1]); refusal++) {
                if (!met.contains(parts[0] + " -" + refusal)) {
                    fail("no call met " + parts[0] + " answering -" + refusal);
                }
            }
        }
    }
}
