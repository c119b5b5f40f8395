import java.util.TreeSet;

/**
 * For each sentence of the document that names a boundary case a test of its own: the last value that is taken and
 * the first that is refused on each side, and the empty and the full tree.
 */
public final class BoundaryTest {
    private static final int LEAST = Integer.MIN_VALUE;
    private static final int MOST = Integer.MAX_VALUE;
    // Beside the neighbours of the good values, some that a mask or a remainder would turn into good ones.
    private static final int[] NOT_ENTRIES = {-1, 24, -23, -24, 25, 32, 256, LEAST, LEAST + 1, MOST};
    private static final int[] NOT_NAMES = {-1, 8, -7, -8, 9, 16, 256, LEAST, LEAST + 1, MOST};
    private static final int[] NOT_SNAPSHOTS = {-1, 3, -2, -3, 4, 6, 256, LEAST, LEAST + 1, MOST};
    private static final int[] CONTENTS = {LEAST, LEAST + 1, -2, -1, 0, 1, 23, 24, MOST - 1, MOST};
    private static final boolean[] KINDS = {false, true};
    private static int wrong = 0;
    private static String sentence = "";

    private interface Ask {
        int of(TreeHasher x, int value);
    }

    private static void sentence(String words) {
        sentence = words;
    }

    private static void due(String what, long got, long want) {
        if (got != want) {
            wrong++;
            System.out.println("\"" + sentence + "\": " + what + " answered " + got + ", due is " + want);
        }
    }

    public static void main(String[] args) {
        terms();
        making();
        changing();
        moving();
        asking();
        snapshots();
        comparing();
        System.out.println(wrong == 0 ? "all answers are as due" : wrong + " answers are not as due");
        if (wrong != 0) {
            System.exit(1);
        }
    }

    /** A chain of directories 1 .. depth, all with the same name. */
    private static TreeHasher chain(int depth, int name) {
        TreeHasher x = new TreeHasher();
        for (int entry = 1; entry <= depth; entry++) {
            due("making a chain", x.directory(entry - 1, name), entry);
        }
        return x;
    }

    /** 24 entries: directories 1, 2 and 3 (names 0, 1, 2), with files 4 .. 11, 12 .. 19 and 20 .. 23. */
    private static TreeHasher full() {
        TreeHasher x = new TreeHasher();
        for (int name = 0; name < 3; name++) {
            due("making a full tree", x.directory(0, name), name + 1);
        }
        for (int entry = 4; entry < 24; entry++) {
            due("making a full tree", x.file(1 + (entry - 4) / 8, (entry - 4) % 8, entry), entry);
        }
        return x;
    }

    private static int make(TreeHasher x, boolean asFile, int parent, int name) {
        return asFile ? x.file(parent, name, 5) : x.directory(parent, name);
    }

    private static int pathOf(int... names) {
        int path = 0;
        for (int name : names) {
            path = path * 9 + name + 1;
        }
        return path;
    }

    /** Entries that can't be, that are not made yet and that are no more get the refusal; all others don't. */
    private static void onlyGoodEntries(String call, Ask ask, int refusal) {
        for (int entry : NOT_ENTRIES) {
            due(call + " of " + entry + " in a new object", ask.of(new TreeHasher(), entry), refusal);
            due(call + " of " + entry + " in a full tree", ask.of(full(), entry), refusal);
        }
        for (int entry = 1; entry < 24; entry++) {
            due(call + " of " + entry + ", not made yet", ask.of(new TreeHasher(), entry), refusal);
            due(call + " of " + entry + " refused", ask.of(full(), entry) == refusal ? 1 : 0, 0);
            TreeHasher x = full();
            x.remove(entry);
            due(call + " of " + entry + ", removed", ask.of(x, entry), refusal);
        }
        TreeHasher above = full();
        above.remove(3);
        due(call + " of 23, removed with its parent", ask.of(above, 23), refusal);
        TreeHasher restored = full();
        restored.restore(2);
        due(call + " of 1 after restoring the empty tree", ask.of(restored, 1), refusal);
    }

    /** -3 for names outside 0 .. 7, in an object where no other refusal holds; the names 0 .. 7 are taken. */
    private static void onlyGoodNames(String call, Ask ask) {
        for (int name : NOT_NAMES) {
            due(call + " with name " + name, ask.of(chain(2, 3), name), -3);
        }
        for (int name = 0; name < 8; name++) {
            due(call + " with name " + name + " refused", ask.of(chain(2, 3), name) < 0 ? 1 : 0, 0);
        }
    }

    private static void onlyGoodSnapshots(String call, Ask ask, int refusal, int[] answers) {
        for (int snapshot : NOT_SNAPSHOTS) {
            due(call + " of " + snapshot + " in a new object", ask.of(new TreeHasher(), snapshot), refusal);
            due(call + " of " + snapshot, ask.of(threeTrees(), snapshot), refusal);
        }
        for (int snapshot = 0; snapshot < 3; snapshot++) {
            due(call + " of " + snapshot, ask.of(threeTrees(), snapshot), answers[snapshot]);
        }
    }

    /** Snapshots of two files with content -3, of four (7 in the others) and of six (9); the tree has six files. */
    private static TreeHasher threeTrees() {
        TreeHasher x = new TreeHasher();
        int[] contents = {-3, 7, 9};
        for (int snapshot = 0; snapshot < 3; snapshot++) {
            x.file(0, 2 * snapshot, contents[snapshot]);
            x.file(0, 2 * snapshot + 1, contents[snapshot]);
            due("making three snapshots", x.save(snapshot), 2 * snapshot + 2);
        }
        return x;
    }

    // ---- Terms

    private static void terms() {
        calls512();
        entries0To23();
        rootAlwaysExists();
        names0To7();
        contentAnyInt();
        noNameTwice();
        depthAtMost5();
        leastNumber();
        pathDigits();
        pathsBelow59049();
        emptySnapshotsAtFirst();
        threeSnapshots();
        differInJustOne();
        differInKind();
        differInContent();
    }

    private static void calls512() {
        sentence("An object is used for at most 512 calls");
        TreeHasher x = new TreeHasher();
        x.file(0, 7, 6);
        x.save(1);
        for (int call = 3; call < 509; call += 2) {
            due("call " + call, x.directory(0, 0), 2);
            due("call " + (call + 1), x.remove(2), 1);
        }
        due("call 509", x.changed(1), 0);
        due("call 510", x.write(1, 8), 0);
        due("call 511", x.restore(1), 1);
        due("call 512", x.content(1), 6);
    }

    private static void entries0To23() {
        sentence("ENTRIES are numbered 0 .. 23");
        TreeHasher x = full();
        TreeSet<Integer> paths = new TreeSet<>();
        for (int entry = 0; entry < 24; entry++) {
            paths.add(x.path(entry));
        }
        due("how many paths 24 entries have", paths.size(), 24);
        due("the least path", paths.first(), 0);
        due("kind(23)", x.kind(23), 1);
        due("kind(24)", x.kind(24), -1);
        due("kind(-1)", x.kind(-1), -1);
    }

    private static void rootAlwaysExists() {
        sentence("entry 0 is the ROOT, a directory that always exists");
        TreeHasher x = full();
        due("kind(0) in a full tree", x.kind(0), 0);
        due("remove(0)", x.remove(0), -2);
        due("kind(0) after it", x.kind(0), 0);
        due("restore(0)", x.restore(0), 0);
        due("kind(0) in an emptied tree", x.kind(0), 0);
        due("path(0)", x.path(0), 0);
        due("a new entry isn't the root", x.file(0, 0, 0), 1);
    }

    private static void names0To7() {
        sentence("a NAME 0 .. 7");
        TreeHasher x = new TreeHasher();
        for (int name = 0; name < 8; name++) {
            due("name " + name, make(x, name % 2 == 1, 0, name), name + 1);
            due("its path", x.path(name + 1), name + 1);
        }
        due("name 8", x.directory(0, 8), -3);
        due("name -1", x.directory(0, -1), -3);
        due("entries", x.entries(), 9);
    }

    private static void contentAnyInt() {
        sentence("a CONTENT (any int)");
        for (int content : CONTENTS) {
            TreeHasher x = new TreeHasher();
            due("file of " + content, x.file(0, 0, content), 1);
            due("content", x.content(1), content);
            due("another file", x.file(0, 1, 77), 2);
            due("write of " + content, x.write(2, content), 0);
            due("content", x.content(2), content);
            due("alike", x.alike(1, 2), 1);
            due("save", x.save(0), 2);
            due("repeated", x.repeated(0), content);
            due("remove", x.remove(1), 1);
            due("restore", x.restore(0), 2);
            due("content after restore", x.content(1), content);
            due("content after restore", x.content(2), content);
        }
    }

    private static void noNameTwice() {
        sentence("No two entries with the same parent have the same name");
        for (boolean first : KINDS) {
            for (boolean second : KINDS) {
                for (int name = 0; name < 8; name++) {
                    TreeHasher x = new TreeHasher();
                    due("the name", make(x, first, 0, name), 1);
                    due("the name again", make(x, second, 0, name), -4);
                    due("the next name", make(x, second, 0, (name + 1) % 8), 2);
                    due("moving onto the name", x.move(2, 0, name), -5);
                    due("entries", x.entries(), 3);
                }
            }
        }
        TreeHasher y = chain(2, 6);
        due("the same name with another parent", y.directory(2, 6), 3);
        due("the name is free after a move", y.move(1, 0, 5), 0);
        due("the name is free after a move", y.file(0, 6, 1), 4);
        due("the name is free after a removal", y.remove(4), 1);
        due("the name is free after a removal", y.directory(0, 6), 4);
    }

    private static void depthAtMost5() {
        sentence("The DEPTH of the root is 0 .. it is at most 5");
        for (boolean asFile : KINDS) {
            for (int depth = 0; depth < 5; depth++) {
                due("below depth " + depth, make(chain(depth, 7), asFile, depth, 0), depth + 1);
            }
            due("below depth 5", make(chain(5, 7), asFile, 5, 0), -5);
        }
    }

    private static void leastNumber() {
        sentence("A new entry gets the least number that no existing entry has");
        for (boolean asFile : KINDS) {
            for (int gap = 4; gap < 24; gap++) {
                TreeHasher x = full();
                due("removing " + gap, x.remove(gap), 1);
                due("the number " + gap, make(x, asFile, 0, 7), gap);
            }
            TreeHasher y = full();
            due("removing 2 and 12 .. 19", y.remove(2), 9);
            due("removing 5", y.remove(5), 1);
            due("the least of the gaps", make(y, asFile, 0, 7), 2);
            due("the second", make(y, asFile, 0, 6), 5);
            due("the third", make(y, asFile, 0, 5), 12);
            due("removing 23", y.remove(23), 1);
            due("the fourth", make(y, asFile, 0, 4), 13);
        }
    }

    private static void pathDigits() {
        sentence("the value of the digits n1 + 1, .., nd + 1 in base 9 (n1 + 1 the first digit)");
        TreeHasher x = chain(5, 0);
        int[] least = {0, 1, 10, 91, 820, 7381};
        TreeHasher y = chain(5, 7);
        int[] greatest = {0, 8, 80, 728, 6560, 59048};
        for (int depth = 0; depth <= 5; depth++) {
            due("least path of depth " + depth, x.path(depth), least[depth]);
            due("greatest path of depth " + depth, y.path(depth), greatest[depth]);
        }
        TreeHasher z = chain(1, 7);
        z.directory(1, 0);
        due("the first digit is that below the root", z.path(2), 8 * 9 + 1);
    }

    private static void pathsBelow59049() {
        sentence("Paths of depth at most 5 are numbers below 9^5 = 59049");
        TreeHasher x = chain(5, 7);
        due("path(5)", x.path(5), 59048);
        due("lookup(59048)", x.lookup(59048), 5);
        due("lookup(59049)", x.lookup(59049), -1);
        TreeHasher y = chain(4, 7);
        y.file(4, 7, 1);
        due("a file's path", y.path(5), 59048);
        y.save(0);
        due("in a snapshot", y.difference(0, 1, 4), 59048);
    }

    private static void emptySnapshotsAtFirst() {
        sentence("each holds a tree; the empty one (no paths) at first");
        for (int snapshot = 0; snapshot < 3; snapshot++) {
            TreeHasher x = new TreeHasher();
            due("changed(" + snapshot + ")", x.changed(snapshot), 0);
            x.file(0, 0, 1);
            x.file(0, 1, 1);
            due("changed(" + snapshot + ") with two files", x.changed(snapshot), 2);
            due("repeated(" + snapshot + ")", x.repeated(snapshot), 0);
            due("differing from the next", x.differing(snapshot, (snapshot + 1) % 3), 0);
            due("difference from the next", x.difference(snapshot, (snapshot + 1) % 3, 0), -2);
            due("restore(" + snapshot + ")", x.restore(snapshot), 0);
            due("entries", x.entries(), 1);
        }
    }

    private static void threeSnapshots() {
        sentence("There are three SNAPSHOTS, 0 .. 2");
        int[][] orders = {{0, 1, 2}, {2, 1, 0}, {1, 2, 0}};
        for (int[] order : orders) {
            TreeHasher x = new TreeHasher();
            for (int paths = 1; paths <= 3; paths++) {
                x.file(0, paths, paths);
                due("save(" + order[paths - 1] + ")", x.save(order[paths - 1]), paths);
            }
            for (int paths = 1; paths <= 3; paths++) {
                due("restore(" + order[paths - 1] + ")", x.restore(order[paths - 1]), paths);
                due("the last file", x.content(paths), paths);
                due("no more", x.kind(paths + 1), -1);
            }
        }
    }

    private static void differInJustOne() {
        sentence("Two trees DIFFER at a path if it is there in just one of them");
        for (boolean asFile : KINDS) {
            TreeHasher x = new TreeHasher();
            if (asFile) {
                x.file(0, 0, 0);
            } else {
                x.directory(0, 0);
            }
            due("changed", x.changed(0), 1);
            x.save(0);
            due("differing", x.differing(0, 1), 1);
            due("differing, the other way", x.differing(1, 0), 1);
            due("difference", x.difference(0, 1, 0), 1);
            due("difference, the other way", x.difference(1, 0, 0), 1);
            due("in both", x.changed(0), 0);
            x.remove(1);
            due("in the snapshot alone", x.changed(0), 1);
        }
    }

    private static void differInKind() {
        sentence("or is a directory in one and a file in the other");
        for (int content : CONTENTS) {
            TreeHasher x = new TreeHasher();
            x.directory(0, 4);
            x.save(0);
            x.remove(1);
            x.file(0, 4, content);
            due("a file of " + content + " now", x.changed(0), 1);
            x.save(1);
            due("differing", x.differing(0, 1), 1);
            due("difference", x.difference(1, 0, 0), 5);
            x.restore(0);
            due("a directory now", x.changed(1), 1);
        }
    }

    private static void differInContent() {
        sentence("or is a file in both with different contents");
        for (int first : CONTENTS) {
            for (int second : CONTENTS) {
                int differ = first == second ? 0 : 1;
                TreeHasher x = chain(1, 2);
                x.file(1, 2, first);
                x.save(0);
                x.write(2, second);
                x.save(1);
                // The directory above stands in both and doesn't differ by what is below it.
                due("changed from " + first + " to " + second, x.changed(0), differ);
                due("differing", x.differing(0, 1), differ);
                due("difference", x.difference(0, 1, 0), differ == 1 ? pathOf(2, 2) : -2);
            }
        }
    }

    // ---- Promises 1 to 3

    private static void making() {
        newObject();
        for (boolean asFile : KINDS) {
            String call = asFile ? "file" : "directory";
            sentence(call + ": -1 if parent is not good");
            onlyGoodEntries(call, (x, parent) -> make(x, asFile, parent, 7), -1);
            parentIsFile(call, asFile);
            sentence(call + ": -3 if name is not good");
            onlyGoodNames(call, (x, name) -> make(x, asFile, 2, name));
            nameIsTaken(call, asFile);
            parentIsAtDepth5(call, asFile);
            treeIsFull(call, asFile);
            answersItsNumber(call, asFile);
        }
    }

    private static void newObject() {
        sentence("Only the root exists");
        TreeHasher x = new TreeHasher();
        due("entries()", x.entries(), 1);
        due("kind(0)", x.kind(0), 0);
        due("lookup(0)", x.lookup(0), 0);
        for (int entry = 1; entry < 24; entry++) {
            due("kind(" + entry + ")", x.kind(entry), -1);
        }
        for (int path = 1; path < 10; path++) {
            due("lookup(" + path + ")", x.lookup(path), -1);
        }
        due("save(0)", x.save(0), 0);
        due("twins(0)", x.twins(0), 1);
    }

    private static void parentIsFile(String call, boolean asFile) {
        sentence(call + ": -2 if it is a file");
        for (int content : CONTENTS) {
            TreeHasher x = new TreeHasher();
            x.file(0, 0, content);
            due("below a file of " + content, make(x, asFile, 1, 0), -2);
            x.remove(1);
            x.directory(0, 0);
            due("below a directory with the file's number", make(x, asFile, 1, 0), 2);
        }
        TreeHasher y = full();
        y.remove(22);
        due("below entry 23, a file", make(y, asFile, 23, 0), -2);
        due("below entry 3, a directory", make(y, asFile, 3, 7), 22);
    }

    private static void nameIsTaken(String call, boolean asFile) {
        sentence(call + ": -4 if the parent has an entry with that name");
        TreeHasher x = new TreeHasher();
        for (int name = 0; name < 8; name++) {
            make(x, name < 4, 0, name);
        }
        for (int name = 0; name < 8; name++) {
            due("name " + name + " of the root", make(x, asFile, 0, name), -4);
        }
        due("its child has none with that name", make(x, asFile, 5, 0), 9);
        due("its child has one now", make(x, asFile, 5, 0), -4);
        due("another child hasn't", make(x, asFile, 6, 0), 10);
        for (int entry = 4; entry < 24; entry++) {
            TreeHasher y = full();
            y.remove(entry == 4 ? 5 : 4);
            due("the name of " + entry, make(y, asFile, 1 + (entry - 4) / 8, (entry - 4) % 8), -4);
        }
    }

    private static void parentIsAtDepth5(String call, boolean asFile) {
        sentence(call + ": -5 if the parent's depth is 5");
        TreeHasher x = chain(5, 0);
        for (int name = 0; name < 8; name++) {
            due("name " + name, make(x, asFile, 5, name), -5);
        }
        due("depth 4", make(x, asFile, 4, 1), 6);
        due("moving the parent up", x.move(5, 0, 7), 0);
        due("its depth is 1 now", make(x, asFile, 5, 0), 7);
    }

    private static void treeIsFull(String call, boolean asFile) {
        sentence(call + ": -6 if there are 24 entries");
        TreeHasher x = full();
        due("with 24 entries", make(x, asFile, 0, 7), -6);
        due("with 24 entries, elsewhere", make(x, asFile, 3, 7), -6);
        due("one away", x.remove(4), 1);
        due("with 23 entries", make(x, asFile, 3, 7), 4);
        due("with 24 again", make(x, asFile, 0, 7), -6);
        due("entries", x.entries(), 24);
    }

    private static void answersItsNumber(String call, boolean asFile) {
        sentence(call + ": otherwise answers its number");
        TreeHasher x = new TreeHasher();
        due("the first", make(x, asFile, 0, 0), 1);
        due("its kind", x.kind(1), asFile ? 1 : 0);
        due("its content", x.content(1), asFile ? 5 : 0);
        TreeHasher y = full();
        y.remove(23);
        due("the last", make(y, asFile, 0, 7), 23);
        due("its kind", y.kind(23), asFile ? 1 : 0);
        due("its content", y.content(23), asFile ? 5 : 0);
        due("its path", y.path(23), 8);
    }

    // ---- Promises 4 and 5

    private static void changing() {
        sentence("write: -1 if entry is not good");
        onlyGoodEntries("write", (x, entry) -> x.write(entry, 6), -1);
        writeOfNoFile();
        writeOtherwise();
        sentence("remove: -1 if entry is not good");
        onlyGoodEntries("remove", TreeHasher::remove, -1);
        removeRoot();
        removeEverythingBelow();
        removeCounts();
    }

    private static void writeOfNoFile() {
        sentence("write: -2 if it is not a file");
        for (int content : CONTENTS) {
            TreeHasher x = chain(1, 0);
            due("the root", x.write(0, content), -2);
            due("its content", x.content(0), 0);
            due("a directory", x.write(1, content), -2);
            due("its content", x.content(1), 0);
            due("its kind", x.kind(1), 0);
        }
    }

    private static void writeOtherwise() {
        sentence("write: otherwise 0");
        for (int content : CONTENTS) {
            TreeHasher x = full();
            due("write(4, ..)", x.write(4, content), 0);
            due("the same again", x.write(4, content), 0);
            due("write(23, ..)", x.write(23, content), 0);
            due("content(4)", x.content(4), content);
            due("content(5)", x.content(5), 5);
            due("content(22)", x.content(22), 22);
            due("content(23)", x.content(23), content);
        }
    }

    private static void removeRoot() {
        sentence("remove: -2 if it is the root");
        due("in a new object", new TreeHasher().remove(0), -2);
        due("in a full tree", full().remove(0), -2);
        TreeHasher x = full();
        x.restore(0);
        due("in an emptied tree", x.remove(0), -2);
    }

    private static void removeEverythingBelow() {
        sentence("Takes an entry and everything below it away");
        for (int top = 1; top <= 5; top++) {
            TreeHasher x = chain(5, 7);
            x.remove(top);
            for (int entry = 0; entry <= 5; entry++) {
                due("removing " + top + ", kind(" + entry + ")", x.kind(entry), entry < top ? 0 : -1);
            }
        }
        // Numbers that fall from the top to the bottom.
        TreeHasher y = new TreeHasher();
        for (int entry = 1; entry <= 5; entry++) {
            y.directory(0, entry);
        }
        for (int entry = 4; entry >= 1; entry--) {
            due("move", y.move(entry, entry + 1, 0), 0);
        }
        due("a chain of falling numbers", y.remove(5), 5);
        due("entries", y.entries(), 1);
    }

    private static void removeCounts() {
        sentence("remove: otherwise answers how many entries were taken away");
        due("a file", full().remove(23), 1);
        due("a directory with four", full().remove(3), 5);
        TreeHasher x = new TreeHasher();
        x.directory(0, 7);
        due("an empty directory", x.remove(1), 1);
        due("again", x.directory(0, 7), 1);
        for (int entry = 2; entry < 24; entry++) {
            due("all in one", x.directory((entry - 2) / 8 + 1, (entry - 2) % 8), entry);
        }
        due("all but the root", x.remove(1), 23);
        due("entries", x.entries(), 1);
        due("the numbers are free again", x.directory(0, 7), 1);
    }

    // ---- Promise 6

    private static void moving() {
        sentence("move: -1 if entry is not good or is the root");
        onlyGoodEntries("move", (x, entry) -> x.move(entry, 0, 7), -1);
        moveRoot();
        moveToNoDirectory();
        sentence("move: -3 if name is not good");
        onlyGoodNames("move", (x, name) -> x.move(2, 0, name == 3 ? 4 : name));
        onlyGoodNames("move, nothing else changing", (x, name) -> x.move(2, 1, name));
        moveBelowItself();
        moveOntoAnother();
        moveTooDeep();
        moveTooDeepBelow();
        moveTooDeepByEachNumber();
        moveWithoutChange();
        moveInFullTree();
    }

    private static void moveRoot() {
        sentence("move: -1 if entry .. is the root");
        TreeHasher x = chain(2, 3);
        due("to itself", x.move(0, 0, 0), -1);
        due("below itself", x.move(0, 1, 0), -1);
        due("its child is no root", x.move(1, 0, 0), 0);
    }

    private static void moveToNoDirectory() {
        sentence("move: -2 if parent is not good or is a file");
        for (int parent : NOT_ENTRIES) {
            due("to " + parent + " in a full tree", full().move(23, parent, 7), -2);
            due("to " + parent, chain(1, 0).move(1, parent, 7), -2);
        }
        for (int parent = 4; parent < 24; parent++) {
            due("to the file " + parent, full().move(1, parent, 7), -2);
            TreeHasher x = full();
            x.remove(parent);
            due("to the removed " + parent, x.move(1, parent, 7), -2);
            due("to " + parent + ", not made yet", chain(3, 0).move(1, parent, 7), -2);
        }
        due("to the root", full().move(23, 0, 7), 0);
        due("to the last directory", full().move(4, 3, 7), 0);
    }

    private static void moveBelowItself() {
        sentence("move: -4 if the parent is the entry or lies below it");
        for (int entry = 1; entry <= 4; entry++) {
            for (int parent = 0; parent <= 4; parent++) {
                boolean refused = parent >= entry;
                due(entry + " to " + parent, chain(4, 0).move(entry, parent, 7), refused ? -4 : 0);
            }
        }
        TreeHasher x = chain(2, 0);
        x.directory(1, 5);
        due("to one beside it", x.move(2, 3, 0), 0);
        due("then below itself", x.move(3, 2, 0), -4);
    }

    private static void moveOntoAnother() {
        sentence("move: -5 if the parent has another entry with that name");
        for (boolean asFile : KINDS) {
            for (int name = 0; name < 8; name++) {
                TreeHasher x = new TreeHasher();
                make(x, asFile, 0, name);
                x.directory(0, (name + 1) % 8);
                x.directory(2, (name + 1) % 8);
                due("beside it", x.move(2, 0, name), -5);
                due("from elsewhere", x.move(3, 0, name), -5);
                due("onto its own parent's name", x.move(3, 0, (name + 1) % 8), -5);
                due("onto its own name", x.move(3, 2, (name + 1) % 8), 0);
                due("that name elsewhere", x.move(3, 2, name), 0);
                x.remove(1);
                due("the other is gone", x.move(3, 0, name), 0);
            }
        }
    }

    private static void moveTooDeep() {
        sentence("move: -6 if an entry would get a depth greater than 5 (the entry itself)");
        for (boolean asFile : KINDS) {
            for (int parent = 0; parent <= 5; parent++) {
                TreeHasher x = chain(5, 0);
                make(x, asFile, 0, 7);
                due("to depth " + (parent + 1), x.move(6, parent, 7), parent == 5 ? -6 : 0);
                due("path", x.path(6), parent == 5 ? 8 : x.path(parent) * 9 + 8);
            }
        }
    }

    private static void moveTooDeepBelow() {
        sentence("move: -6 if an entry would get a depth greater than 5 (one below it)");
        for (int height = 0; height <= 4; height++) {
            for (int parent = 0; parent <= 4; parent++) {
                boolean refused = parent + 1 + height > 5;
                TreeHasher x = chain(4, 0);
                int lowest = x.directory(0, 7);
                for (int level = 0; level < height; level++) {
                    lowest = x.directory(lowest, 0);
                }
                // The deepest entry shall have neither the greatest number nor the greatest name.
                for (int name = 1; name < 4 && height > 0; name++) {
                    x.file(5, name, 1);
                }
                int before = x.path(5);
                due("height " + height + " to depth " + (parent + 1), x.move(5, parent, 7), refused ? -6 : 0);
                due("path", x.path(5), refused ? before : x.path(parent) * 9 + 8);
            }
        }
    }

    /** The entry that would be too deep has each number once, with free numbers before it and after it. */
    private static void moveTooDeepByEachNumber() {
        for (int low = 1; low < 24; low++) {
            int top = low < 4 ? low % 3 + 1 : 1 + (low - 4) / 8;
            TreeHasher x = full();
            for (int other = 23; other > 0; other--) {
                if (other != low && other != top) {
                    x.remove(other);
                }
            }
            if (low < 4) {
                due(low + " below " + top, x.move(low, top, 0), 0);
            }
            int third = x.directory(x.directory(x.directory(0, 7), 7), 7);
            int fourth = x.directory(third, 7);
            due("entry " + low + " to depth 6", x.move(top, fourth, 0), -6);
            due("entry " + low + " to depth 5", x.move(top, third, 0), 0);
            due("its parent", x.lookup(x.path(low) / 9), top);
        }
    }

    private static int power(int exponent) {
        int power = 1;
        for (int i = 0; i < exponent; i++) {
            power *= 9;
        }
        return power;
    }

    /** The path of this many names 0. */
    private static int ones(int length) {
        return pathOf(new int[length]);
    }

    private static void moveWithoutChange() {
        sentence("move: otherwise 0 (also if nothing changes)");
        TreeHasher x = chain(5, 6);
        for (int entry = 1; entry <= 5; entry++) {
            int before = x.path(entry);
            due("moving " + entry + " to where it is", x.move(entry, entry - 1, 6), 0);
            due("its path", x.path(entry), before);
        }
        due("renaming above depth 5", x.move(1, 0, 0), 0);
        due("renaming at depth 5", x.move(5, 4, 0), 0);
        due("its path", x.path(5), pathOf(0, 6, 6, 6, 0));
        due("entries", x.entries(), 6);
    }

    private static void moveInFullTree() {
        sentence("move: otherwise 0 (in a full tree)");
        TreeHasher x = full();
        due("a directory with eight files", x.move(1, 3, 7), 0);
        due("the last entry", x.move(23, 0, 7), 0);
        due("entries", x.entries(), 24);
        due("path(11)", x.path(11), pathOf(2, 7, 7));
        due("path(23)", x.path(23), 8);
        due("content(23)", x.content(23), 23);
    }

    // ---- Promises 7 to 11

    private static void asking() {
        sentence("kind: -1 if entry is not good");
        onlyGoodEntries("kind", TreeHasher::kind, -1);
        kinds();
        contents();
        sentence("path: -1 if entry is not good");
        onlyGoodEntries("path", TreeHasher::path, -1);
        pathOfRoot();
        lookupOfRoot();
        lookupOfAll();
        lookupOfNone();
        entryCounts();
    }

    private static void kinds() {
        sentence("kind: 0 if the entry is a directory, 1 if it is a file");
        TreeHasher x = full();
        for (int entry = 0; entry < 24; entry++) {
            due("kind(" + entry + ")", x.kind(entry), entry < 4 ? 0 : 1);
        }
        for (int content : CONTENTS) {
            x.write(23, content);
            due("a file of " + content, x.kind(23), 1);
        }
    }

    private static void contents() {
        sentence("content: 0 if entry is not good or a directory");
        TreeHasher x = full();
        for (int entry = 0; entry < 24; entry++) {
            due("content(" + entry + ")", x.content(entry), entry < 4 ? 0 : entry);
        }
        for (int entry : NOT_ENTRIES) {
            due("content(" + entry + ")", x.content(entry), 0);
        }
        x.remove(23);
        due("removed", x.content(23), 0);
        x.remove(2);
        due("removed with its parent", x.content(12), 0);
        due("a directory in a removed file's place", x.directory(0, 7), 2);
        due("and the next", x.directory(0, 6), 12);
        due("its content", x.content(12), 0);
        x.restore(0);
        due("not restored", x.content(4), 0);
    }

    private static void pathOfRoot() {
        sentence("path: 0 for the root");
        due("in a new object", new TreeHasher().path(0), 0);
        due("in a full tree", full().path(0), 0);
        due("above a path of depth 5", chain(5, 7).path(0), 0);
    }

    private static void lookupOfRoot() {
        sentence("lookup: (0 for the root)");
        due("in a new object", new TreeHasher().lookup(0), 0);
        due("in a full tree", full().lookup(0), 0);
        due("above a path of depth 5", chain(5, 7).lookup(0), 0);
    }

    private static void lookupOfAll() {
        sentence("lookup: The entry with this path");
        TreeHasher x = full();
        for (int entry = 0; entry < 24; entry++) {
            due("path of " + entry, x.lookup(x.path(entry)), entry);
        }
        TreeHasher least = chain(5, 0);
        TreeHasher greatest = chain(5, 7);
        for (int depth = 1; depth <= 5; depth++) {
            due("least path of depth " + depth, least.lookup(ones(depth)), depth);
            due("greatest path of depth " + depth, greatest.lookup(power(depth) - 1), depth);
        }
    }

    private static void lookupOfNone() {
        sentence("lookup: -1 if there is none");
        TreeHasher x = chain(4, 7);
        x.file(4, 7, 3);
        int[] none = {-1, 1, 7, 9, 10, 59047, 59049, 59048 + 59049, 59048 * 9 + 8, 8 * 59049 + 59048, MOST, LEAST, -8,
            -80, -59048, LEAST + 8, LEAST + 59048};
        for (int path : none) {
            due("lookup(" + path + ")", x.lookup(path), -1);
        }
        // A digit 0 is no name: neither last, nor inside, nor in front of a path's digits.
        int[] zeros = {72, 81, 648, 656, 720, 5832, 52488, 59040, 59049 + 8, 2 * 59049, 81 * 59049, 6561 * 59049};
        for (int path : zeros) {
            due("lookup(" + path + "), a digit 0", x.lookup(path), -1);
        }
        TreeHasher y = new TreeHasher();
        y.file(0, 7, 3);
        due("below a file", y.lookup(80), -1);
        y.remove(1);
        due("removed", y.lookup(8), -1);
        for (int path = 1; path < 200; path++) {
            due("lookup(" + path + ") in the empty tree", y.lookup(path), -1);
        }
    }

    private static void entryCounts() {
        sentence("entries: How many entries there are, the root included");
        TreeHasher x = new TreeHasher();
        due("the empty tree", x.entries(), 1);
        x.directory(0, 0);
        due("one more", x.entries(), 2);
        x.remove(1);
        due("empty again", x.entries(), 1);
        TreeHasher y = full();
        due("the full tree", y.entries(), 24);
        y.remove(23);
        due("one less", y.entries(), 23);
        y.remove(1);
        due("nine less", y.entries(), 14);
    }

    // ---- Promises 12 to 16 and 19

    private static void snapshots() {
        sentence("save: -1 if snapshot is not good");
        onlyGoodSnapshots("save", TreeHasher::save, -1, new int[] {6, 6, 6});
        saveCounts();
        sentence("restore: -1 if snapshot is not good");
        onlyGoodSnapshots("restore", TreeHasher::restore, -1, new int[] {2, 4, 6});
        restoreTakesAwayFirst();
        restoreInOrder();
        restoreCounts();
        sentence("differing: -1 if a or b is not good");
        onlyGoodSnapshots("differing, a", (x, a) -> x.differing(a, 0), -1, new int[] {0, 2, 4});
        onlyGoodSnapshots("differing, b", (x, b) -> x.differing(2, b), -1, new int[] {4, 2, 0});
        onlyGoodSnapshots("differing, both", (x, a) -> x.differing(a, a), -1, new int[] {0, 0, 0});
        differingCounts();
        sentence("difference: -1 if a or b is not good");
        onlyGoodSnapshots("difference, a", (x, a) -> x.difference(a, 0, 1), -1, new int[] {-2, 4, 4});
        onlyGoodSnapshots("difference, b", (x, b) -> x.difference(2, b, 1), -1, new int[] {4, 6, -2});
        onlyGoodSnapshots("difference, both", (x, a) -> x.difference(a, a, 0), -1, new int[] {-2, -2, -2});
        differenceInOrder();
        noSuchDifference();
        sentence("changed: -1 if snapshot is not good");
        onlyGoodSnapshots("changed", TreeHasher::changed, -1, new int[] {4, 2, 0});
        changedCounts();
        sentence("repeated: 0 if .. snapshot is not good");
        onlyGoodSnapshots("repeated", TreeHasher::repeated, 0, new int[] {-3, -3, -3});
        repeatedNone();
        repeatedMoreThanOnce();
        repeatedInEach();
        repeatedLeast();
    }

    private static void saveCounts() {
        sentence("save: otherwise answers how many paths it has");
        for (int snapshot = 0; snapshot < 3; snapshot++) {
            TreeHasher x = full();
            due("the full tree", x.save(snapshot), 23);
            due("the full tree again", x.save(snapshot), 23);
            due("changed", x.changed(snapshot), 0);
            x.remove(23);
            due("one path less", x.save(snapshot), 22);
            due("changed", x.changed(snapshot), 0);
            x.remove(4);
            due("a number free before others", x.save(snapshot), 21);
            due("changed", x.changed(snapshot), 0);
            x.restore((snapshot + 1) % 3);
            due("the empty tree", x.save(snapshot), 0);
            due("changed", x.changed(snapshot), 0);
            due("restored", x.restore(snapshot), 0);
        }
    }

    private static void restoreTakesAwayFirst() {
        sentence("restore: All entries but the root are taken away first");
        TreeHasher x = full();
        x.save(0);
        x.move(1, 0, 7);
        due("a full tree over a full one", x.restore(0), 23);
        due("entries", x.entries(), 24);
        due("the old path", x.lookup(8), -1);
        due("the saved path", x.lookup(1), 1);
        due("changed", x.changed(0), 0);
        due("the empty tree over a full one", x.restore(1), 0);
        due("entries", x.entries(), 1);
        due("a full tree over the empty one", x.restore(0), 23);
        due("changed", x.changed(0), 0);
    }

    private static void restoreInOrder() {
        sentence("restore: in rising order of (depth, path number), each as a new entry with the least free number");
        // Made from the greatest path to the least, and with the deepest among the first.
        TreeHasher x = chain(5, 7);
        for (int name = 6; name >= 0; name--) {
            x.file(0, name, name);
            x.directory(4, name);
        }
        due("save", x.save(2), 19);
        x.remove(1);
        due("restore", x.restore(2), 19);
        for (int name = 0; name < 7; name++) {
            due("depth 1", x.path(1 + name), name + 1);
            due("its kind", x.kind(1 + name), 1);
            due("its content", x.content(1 + name), name);
            due("depth 5", x.path(12 + name), pathOf(7, 7, 7, 7, name));
            due("its kind", x.kind(12 + name), 0);
        }
        for (int depth = 1; depth <= 4; depth++) {
            due("depth " + depth, x.path(7 + depth), power(depth) - 1);
        }
        due("the last", x.path(19), 59048);
        due("the next free number", x.directory(8, 0), 20);
        due("depth 5 stays the last", x.directory(19, 0), -5);
    }

    private static void restoreCounts() {
        sentence("restore: otherwise answers how many paths it has");
        TreeHasher x = full();
        due("the empty one", x.restore(0), 0);
        due("entries", x.entries(), 1);
        x.file(0, 7, 4);
        x.save(1);
        due("one path", x.restore(1), 1);
        due("entries", x.entries(), 2);
        TreeHasher y = full();
        y.save(2);
        due("23 paths", y.restore(2), 23);
        due("entries", y.entries(), 24);
        due("no room", y.directory(0, 7), -6);
    }

    /** Snapshots 0 and 1 have 23 paths each and share none of them; snapshot 2 is empty. */
    private static TreeHasher farApart() {
        TreeHasher x = full();
        x.save(0);
        for (int entry = 1; entry < 4; entry++) {
            x.move(entry, 0, entry + 4);
        }
        x.save(1);
        return x;
    }

    private static void differingCounts() {
        sentence("differing: At how many paths two snapshots differ");
        TreeHasher x = farApart();
        due("two that share nothing", x.differing(0, 1), 46);
        due("the other way", x.differing(1, 0), 46);
        due("with the empty one", x.differing(0, 2), 23);
        due("the other way", x.differing(2, 0), 23);
        for (int snapshot = 0; snapshot < 3; snapshot++) {
            due("with itself", x.differing(snapshot, snapshot), 0);
        }
        due("two empty ones", new TreeHasher().differing(0, 2), 0);
        x.save(0);
        due("two of the same tree", x.differing(0, 1), 0);
    }

    private static void differenceInOrder() {
        sentence("difference: The i-th path, in rising order of path numbers (0 for the first)");
        TreeHasher x = farApart();
        int last = 0;
        for (int i = 0; i < 46; i++) {
            int path = x.difference(0, 1, i);
            due("path " + i + " rises", path > last ? 1 : 0, 1);
            due("path " + i + " the other way", x.difference(1, 0, i), path);
            last = path;
        }
        due("the first", x.difference(0, 1, 0), 1);
        due("the fourth", x.difference(0, 1, 3), 6);
        due("the last", x.difference(0, 1, 45), pathOf(7, 3));
        // A greater depth is a greater number, whatever the names.
        TreeHasher y = chain(2, 0);
        y.file(0, 7, 1);
        y.save(1);
        due("depth 1, the least name", y.difference(0, 1, 0), 1);
        due("depth 1, the greatest name", y.difference(0, 1, 1), 8);
        due("depth 2, the least names", y.difference(0, 1, 2), 10);
    }

    private static void noSuchDifference() {
        sentence("difference: -2 if there is no such path");
        TreeHasher x = farApart();
        int[] never = {-1, -46, LEAST, LEAST + 1, 46, 47, 64, 59049, MOST};
        for (int i : never) {
            due("i = " + i, x.difference(0, 1, i), -2);
        }
        due("i = 22 with the empty one", x.difference(0, 2, 22), pathOf(2, 3));
        due("i = 23 with the empty one", x.difference(0, 2, 23), -2);
        TreeHasher y = new TreeHasher();
        due("two empty ones", y.difference(0, 1, 0), -2);
        due("two empty ones, i = -1", y.difference(0, 1, -1), -2);
        y.file(0, 7, 1);
        y.save(1);
        due("one path, i = -1", y.difference(0, 1, -1), -2);
        due("one path, i = 0", y.difference(0, 1, 0), 8);
        for (int i = 1; i < 60; i++) {
            due("one path, i = " + i, y.difference(0, 1, i), -2);
        }
        due("with itself", y.difference(1, 1, 0), -2);
    }

    private static void changedCounts() {
        sentence("changed: At how many paths the tree as it is now differs from a snapshot");
        TreeHasher x = farApart();
        due("one that shares nothing", x.changed(0), 46);
        due("the tree itself", x.changed(1), 0);
        due("the empty one", x.changed(2), 23);
        x.restore(2);
        due("the empty tree from a full one", x.changed(0), 23);
        due("the empty tree from the empty one", x.changed(2), 0);
        TreeHasher y = full();
        y.save(0);
        y.write(23, 22);
        due("the last file's content", y.changed(0), 1);
        y.write(23, 23);
        due("as before", y.changed(0), 0);
        // What is compared are paths, not numbers of entries.
        y.move(4, 0, 7);
        y.move(5, 1, 0);
        y.move(4, 1, 1);
        due("two files changed places", y.changed(0), 2);
        y.write(4, 5);
        y.write(5, 4);
        due("and their contents", y.changed(0), 0);
    }

    private static void repeatedNone() {
        sentence("repeated: 0 if there is none");
        due("the empty snapshot", new TreeHasher().repeated(0), 0);
        TreeHasher x = full();
        x.save(0);
        due("20 files, none twice", x.repeated(0), 0);
        TreeHasher y = new TreeHasher();
        for (int name = 0; name < 8; name++) {
            y.directory(0, name);
        }
        y.save(0);
        due("directories alone", y.repeated(0), 0);
        y.remove(8);
        y.file(0, 7, 6);
        y.save(0);
        due("one file", y.repeated(0), 0);
    }

    private static void repeatedMoreThanOnce() {
        sentence("repeated: a file content that stands in the snapshot at more than one path");
        TreeHasher x = full();
        x.write(23, 4);
        x.save(0);
        due("the first and the last path", x.repeated(0), 4);
        x.write(23, 22);
        due("the tree doesn't count", x.repeated(0), 4);
        x.save(0);
        due("the last two paths", x.repeated(0), 22);
        x.write(23, 23);
        x.save(1);
        due("no two", x.repeated(1), 0);
        due("another snapshot", x.repeated(0), 22);
        for (int entry = 4; entry < 24; entry++) {
            x.write(entry, -8);
        }
        x.save(2);
        due("all files", x.repeated(2), -8);
        TreeHasher y = new TreeHasher();
        y.file(0, 0, 5);
        y.save(0);
        y.save(1);
        due("in two snapshots once each", y.repeated(0), 0);
        due("in two snapshots once each", y.repeated(1), 0);
        y.file(0, 1, 5);
        y.save(0);
        y.remove(2);
        y.save(0);
        due("not any more after a smaller save", y.repeated(0), 0);
    }

    private static void repeatedInEach() {
        sentence("repeated: a file content that stands in the snapshot");
        for (int third = 0; third < 3; third++) {
            TreeHasher x = full();
            int[] saved = {third, (third + 1) % 3, (third + 2) % 3};
            for (int i = 0; i < 3; i++) {
                // The pair moves to other paths from one snapshot to the next.
                x.write(4 + 2 * i, -1 - i);
                x.write(5 + 2 * i, -1 - i);
                x.save(saved[i]);
                x.write(4 + 2 * i, 104 + i);
                x.write(5 + 2 * i, 204 + i);
            }
            for (int i = 0; i < 3; i++) {
                due("repeated(" + saved[i] + ")", x.repeated(saved[i]), -1 - i);
            }
        }
    }

    private static void repeatedLeast() {
        sentence("repeated: (The least content as an int.)");
        for (int first : CONTENTS) {
            for (int second : CONTENTS) {
                TreeHasher x = new TreeHasher();
                x.file(0, 0, first);
                x.file(0, 1, second);
                x.file(0, 2, second);
                x.save(0);
                due(first + " once and " + second + " twice", x.repeated(0), second);
                x.file(0, 3, first);
                x.save(0);
                due(first + " and " + second + " twice", x.repeated(0), Math.min(first, second));
            }
        }
    }

    // ---- Promises 17 and 18

    private static void comparing() {
        sentence("alike: -1 if x or y is not good");
        onlyGoodEntries("alike, x", (x, entry) -> x.alike(entry, 0), -1);
        onlyGoodEntries("alike, y", (x, entry) -> x.alike(0, entry), -1);
        onlyGoodEntries("alike, both", (x, entry) -> x.alike(entry, entry), -1);
        alikeFiles();
        alikeDirectories();
        alikeFarBelow();
        alikeByEachNumber();
        alikeOtherwise();
        sentence("twins: -1 if entry is not good");
        onlyGoodEntries("twins", TreeHasher::twins, -1);
        twinsItselfIncluded();
        twinsRootIncluded();
        mostTwins();
    }

    private static void alikeFiles() {
        sentence("alike: both files with the same content");
        for (int first : CONTENTS) {
            for (int second : CONTENTS) {
                TreeHasher x = chain(4, 0);
                x.file(4, 0, first);
                x.file(0, 7, second);
                due("files of " + first + " and " + second, x.alike(5, 6), first == second ? 1 : 0);
                due("the other way", x.alike(6, 5), first == second ? 1 : 0);
            }
        }
    }

    private static void alikeDirectories() {
        sentence("alike: both directories below which the same names stand with alike entries");
        TreeHasher x = new TreeHasher();
        due("the root and itself", x.alike(0, 0), 1);
        x.directory(0, 0);
        x.directory(0, 7);
        due("two empty ones", x.alike(1, 2), 1);
        for (int name = 0; name < 8; name++) {
            int first = x.file(1, name, name);
            due("one name more", x.alike(1, 2), 0);
            due("the other way", x.alike(2, 1), 0);
            int second = x.file(2, name, name);
            due("the same names", x.alike(1, 2), 1);
            x.write(second, -1);
            due("another content", x.alike(1, 2), 0);
            x.write(first, -1);
            due("that content in both", x.alike(1, 2), 1);
        }
        due("a directory and its only like", x.twins(1), 2);
        x.write(3, 0);
        x.write(6, 0);
        due("the same contents at other names", x.alike(1, 2), 0);
    }

    private static void alikeFarBelow() {
        sentence("alike: .. the same names stand with alike entries (at depth 5)");
        for (boolean asFile : KINDS) {
            for (int depth = 1; depth <= 4; depth++) {
                TreeHasher x = new TreeHasher();
                int left = x.directory(0, 0);
                int right = x.directory(0, 1);
                int lowLeft = left;
                int lowRight = right;
                for (int level = 1; level < depth; level++) {
                    lowLeft = x.directory(lowLeft, 7);
                    lowRight = x.directory(lowRight, 7);
                }
                due("the same so far", x.alike(left, right), 1);
                int first = make(x, asFile, lowLeft, 6);
                due("one more", x.alike(left, right), 0);
                due("the other way", x.alike(right, left), 0);
                int second = make(x, asFile, lowRight, 5);
                due("another name", x.alike(left, right), 0);
                x.move(second, lowRight, 6);
                due("the same name", x.alike(left, right), 1);
                x.remove(first);
                make(x, !asFile, lowLeft, 6);
                due("another kind", x.alike(left, right), 0);
            }
        }
    }

    /** Two directories that differ in one entry alone, which has each number once. */
    private static void alikeByEachNumber() {
        for (int number = 4; number < 24; number++) {
            TreeHasher x = full();
            int parent = 1 + (number - 4) / 8;
            due("moving it away", x.move(number, 0, 7), 0);
            for (int other = 23; other > 0; other--) {
                if (other != number && other != parent) {
                    x.remove(other);
                }
            }
            int beside = x.directory(0, 6);
            due("two empty ones beside " + number, x.alike(parent, beside), 1);
            due("moving it back", x.move(number, parent, 7), 0);
            due("one with " + number + " in it", x.alike(parent, beside), 0);
            due("the other way", x.alike(beside, parent), 0);
        }
    }

    private static void alikeOtherwise() {
        sentence("alike: otherwise 0");
        for (int content : CONTENTS) {
            TreeHasher x = new TreeHasher();
            x.directory(0, 0);
            x.file(0, 1, content);
            due("a directory and a file", x.alike(1, 2), 0);
            due("a file and a directory", x.alike(2, 1), 0);
            due("the root and a file", x.alike(0, 2), 0);
            due("the root and its child", x.alike(0, 1), 0);
        }
        TreeHasher y = chain(5, 7);
        for (int first = 0; first <= 5; first++) {
            for (int second = 0; second <= 5; second++) {
                due("in a chain " + first + ", " + second, y.alike(first, second), first == second ? 1 : 0);
            }
        }
    }

    private static void twinsItselfIncluded() {
        sentence("twins: How many existing entries .. are alike to this one, itself included");
        TreeHasher x = full();
        for (int entry = 0; entry < 24; entry++) {
            due("twins(" + entry + ")", x.twins(entry), 1);
        }
        x.write(23, 4);
        due("the first file", x.twins(4), 2);
        due("the last file", x.twins(23), 2);
        x.remove(23);
        due("one that isn't there any more", x.twins(4), 1);
    }

    private static void twinsRootIncluded() {
        sentence("twins: .. (the root included)");
        due("the root alone", new TreeHasher().twins(0), 1);
        TreeHasher x = full();
        due("the root of a full tree", x.twins(0), 1);
        due("restore", x.restore(0), 0);
        due("the root alone again", x.twins(0), 1);
        TreeHasher y = chain(5, 0);
        due("the root of a chain", y.twins(0), 1);
        due("the end of a chain", y.twins(5), 1);
    }

    private static void mostTwins() {
        sentence("twins: How many existing entries (in a full tree)");
        for (boolean asFile : KINDS) {
            TreeHasher x = chain(1, 0);
            x.directory(0, 1);
            for (int entry = 3; entry < 24; entry++) {
                int place = entry - 1;
                due("making 21 alike", make(x, asFile, place < 8 ? 0 : (place - 8) / 8 + 1, place % 8), entry);
            }
            due("the first", x.twins(3), 21);
            due("the last", x.twins(23), 21);
            due("the root", x.twins(0), 1);
            due("eight below", x.twins(1), 1);
            due("seven below", x.twins(2), 1);
        }
    }
}
