/** The bounds of promises 1 to 6: each refusal of the calls that change the tree, and the last call not refused. */
public final class ChangeBoundaryTest extends Checks {
    public static void main(String[] args) {
        making();
        changing();
        moving();
        end();
    }

    private static void making() {
        newObject();
        for (boolean asFile : KINDS) {
            String call = asFile ? "file" : "directory";
            sentence(call + ": -1 if parent is not good");
            onlyGoodEntries(call, (x, parent) -> make(x, asFile, parent, 7), -1);
            parentIsFile(call, asFile);
            sentence(call + ": -3 if name is not good");
            onlyGoodNames(call, (x, name) -> make(x, asFile, 2, name));
            nameIsTaken(call, asFile);
            parentIsAtDepth5(call, asFile);
            treeIsFull(call, asFile);
            answersItsNumber(call, asFile);
        }
    }

    private static void newObject() {
        sentence("Only the root exists");
        TreeHasher x = new TreeHasher();
        due("entries()", x.entries(), 1);
        due("kind(0)", x.kind(0), 0);
        due("lookup(0)", x.lookup(0), 0);
        for (int entry = 1; entry < 24; entry++) {
            due("kind(" + entry + ")", x.kind(entry), -1);
        }
        for (int path = 1; path < 10; path++) {
            due("lookup(" + path + ")", x.lookup(path), -1);
        }
        due("save(0)", x.save(0), 0);
        due("twins(0)", x.twins(0), 1);
    }

    private static void parentIsFile(String call, boolean asFile) {
        sentence(call + ": -2 if it is a file");
        for (int content : CONTENTS) {
            TreeHasher x = new TreeHasher();
            x.file(0, 0, content);
            due("below a file of " + content, make(x, asFile, 1, 0), -2);
            x.remove(1);
            x.directory(0, 0);
            due("below a directory with the file's number", make(x, asFile, 1, 0), 2);
        }
        TreeHasher y = full();
        y.remove(22);
        due("below entry 23, a file", make(y, asFile, 23, 0), -2);
        due("below entry 3, a directory", make(y, asFile, 3, 7), 22);
    }

    private static void nameIsTaken(String call, boolean asFile) {
        sentence(call + ": -4 if the parent has an entry with that name");
        TreeHasher x = new TreeHasher();
        for (int name = 0; name < 8; name++) {
            make(x, name < 4, 0, name);
        }
        for (int name = 0; name < 8; name++) {
            due("name " + name + " of the root", make(x, asFile, 0, name), -4);
        }
        due("its child has none with that name", make(x, asFile, 5, 0), 9);
        due("its child has one now", make(x, asFile, 5, 0), -4);
        due("another child hasn't", make(x, asFile, 6, 0), 10);
        for (int entry = 4; entry < 24; entry++) {
            TreeHasher y = full();
            y.remove(entry == 4 ? 5 : 4);
            due("the name of " + entry, make(y, asFile, 1 + (entry - 4) / 8, (entry - 4) % 8), -4);
        }
    }

    private static void parentIsAtDepth5(String call, boolean asFile) {
        sentence(call + ": -5 if the parent's depth is 5");
        TreeHasher x = chain(5, 0);
        for (int name = 0; name < 8; name++) {
            due("name " + name, make(x, asFile, 5, name), -5);
        }
        due("depth 4", make(x, asFile, 4, 1), 6);
        due("moving the parent up", x.move(5, 0, 7), 0);
        due("its depth is 1 now", make(x, asFile, 5, 0), 7);
    }

    private static void treeIsFull(String call, boolean asFile) {
        sentence(call + ": -6 if there are 24 entries");
        TreeHasher x = full();
        due("with 24 entries", make(x, asFile, 0, 7), -6);
        due("with 24 entries, elsewhere", make(x, asFile, 3, 7), -6);
        due("one away", x.remove(4), 1);
        due("with 23 entries", make(x, asFile, 3, 7), 4);
        due("with 24 again", make(x, asFile, 0, 7), -6);
        due("entries", x.entries(), 24);
    }

    private static void answersItsNumber(String call, boolean asFile) {
        sentence(call + ": otherwise answers its number");
        TreeHasher x = new TreeHasher();
        due("the first", make(x, asFile, 0, 0), 1);
        due("its kind", x.kind(1), asFile ? 1 : 0);
        due("its content", x.content(1), asFile ? 5 : 0);
        TreeHasher y = full();
        y.remove(23);
        due("the last", make(y, asFile, 0, 7), 23);
        due("its kind", y.kind(23), asFile ? 1 : 0);
        due("its content", y.content(23), asFile ? 5 : 0);
        due("its path", y.path(23), 8);
    }

    private static void changing() {
        sentence("write: -1 if entry is not good");
        onlyGoodEntries("write", (x, entry) -> x.write(entry, 6), -1);
        writeOfNoFile();
        writeOtherwise();
        sentence("remove: -1 if entry is not good");
        onlyGoodEntries("remove", TreeHasher::remove, -1);
        removeRoot();
        removeEverythingBelow();
        removeCounts();
    }

    private static void writeOfNoFile() {
        sentence("write: -2 if it is not a file");
        for (int content : CONTENTS) {
            TreeHasher x = chain(1, 0);
            due("the root", x.write(0, content), -2);
            due("its content", x.content(0), 0);
            due("a directory", x.write(1, content), -2);
            due("its content", x.content(1), 0);
            due("its kind", x.kind(1), 0);
        }
    }

    private static void writeOtherwise() {
        sentence("write: otherwise 0");
        for (int content : CONTENTS) {
            TreeHasher x = full();
            due("write(4, ..)", x.write(4, content), 0);
            due("the same again", x.write(4, content), 0);
            due("write(23, ..)", x.write(23, content), 0);
            due("content(4)", x.content(4), content);
            due("content(5)", x.content(5), 5);
            due("content(22)", x.content(22), 22);
            due("content(23)", x.content(23), content);
        }
    }

    private static void removeRoot() {
        sentence("remove: -2 if it is the root");
        due("in a new object", new TreeHasher().remove(0), -2);
        due("in a full tree", full().remove(0), -2);
        TreeHasher x = full();
        x.restore(0);
        due("in an emptied tree", x.remove(0), -2);
    }

    private static void removeEverythingBelow() {
        sentence("Takes an entry and everything below it away");
        for (int top = 1; top <= 5; top++) {
            TreeHasher x = chain(5, 7);
            x.remove(top);
            for (int entry = 0; entry <= 5; entry++) {
                due("removing " + top + ", kind(" + entry + ")", x.kind(entry), entry < top ? 0 : -1);
            }
        }
        // Numbers that fall from the top to the bottom.
        TreeHasher y = new TreeHasher();
        for (int entry = 1; entry <= 5; entry++) {
            y.directory(0, entry);
        }
        for (int entry = 4; entry >= 1; entry--) {
            due("move", y.move(entry, entry + 1, 0), 0);
        }
        due("a chain of falling numbers", y.remove(5), 5);
        due("entries", y.entries(), 1);
    }

    private static void removeCounts() {
        sentence("remove: otherwise answers how many entries were taken away");
        due("a file", full().remove(23), 1);
        due("a directory with four", full().remove(3), 5);
        TreeHasher x = new TreeHasher();
        x.directory(0, 7);
        due("an empty directory", x.remove(1), 1);
        due("again", x.directory(0, 7), 1);
        for (int entry = 2; entry < 24; entry++) {
            due("all in one", x.directory((entry - 2) / 8 + 1, (entry - 2) % 8), entry);
        }
        due("all but the root", x.remove(1), 23);
        due("entries", x.entries(), 1);
        due("the numbers are free again", x.directory(0, 7), 1);
    }

    private static void moving() {
        sentence("move: -1 if entry is not good or is the root");
        onlyGoodEntries("move", (x, entry) -> x.move(entry, 0, 7), -1);
        moveRoot();
        moveToNoDirectory();
        sentence("move: -3 if name is not good");
        onlyGoodNames("move", (x, name) -> x.move(2, 0, name == 3 ? 4 : name));
        onlyGoodNames("move, nothing else changing", (x, name) -> x.move(2, 1, name));
        moveBelowItself();
        moveOntoAnother();
        moveTooDeep();
        moveTooDeepBelow();
        moveTooDeepByEachNumber();
        moveWithoutChange();
        moveInFullTree();
    }

    private static void moveRoot() {
        sentence("move: -1 if entry .. is the root");
        TreeHasher x = chain(2, 3);
        due("to itself", x.move(0, 0, 0), -1);
        due("below itself", x.move(0, 1, 0), -1);
        due("its child is no root", x.move(1, 0, 0), 0);
    }

    private static void moveToNoDirectory() {
        sentence("move: -2 if parent is not good or is a file");
        for (int parent : NOT_ENTRIES) {
            due("to " + parent + " in a full tree", full().move(23, parent, 7), -2);
            due("to " + parent, chain(1, 0).move(1, parent, 7), -2);
        }
        for (int parent = 4; parent < 24; parent++) {
            due("to the file " + parent, full().move(1, parent, 7), -2);
            TreeHasher x = full();
            x.remove(parent);
            due("to the removed " + parent, x.move(1, parent, 7), -2);
            due("to " + parent + ", not made yet", chain(3, 0).move(1, parent, 7), -2);
        }
        due("to the root", full().move(23, 0, 7), 0);
        due("to the last directory", full().move(4, 3, 7), 0);
    }

    private static void moveBelowItself() {
        sentence("move: -4 if the parent is the entry or lies below it");
        for (int entry = 1; entry <= 4; entry++) {
            for (int parent = 0; parent <= 4; parent++) {
                boolean refused = parent >= entry;
                due(entry + " to " + parent, chain(4, 0).move(entry, parent, 7), refused ? -4 : 0);
            }
        }
        TreeHasher x = chain(2, 0);
        x.directory(1, 5);
        due("to one beside it", x.move(2, 3, 0), 0);
        due("then below itself", x.move(3, 2, 0), -4);
    }

    private static void moveOntoAnother() {
        sentence("move: -5 if the parent has another entry with that name");
        for (boolean asFile : KINDS) {
            for (int name = 0; name < 8; name++) {
                TreeHasher x = new TreeHasher();
                make(x, asFile, 0, name);
                x.directory(0, (name + 1) % 8);
                x.directory(2, (name + 1) % 8);
                due("beside it", x.move(2, 0, name), -5);
                due("from elsewhere", x.move(3, 0, name), -5);
                due("onto its own parent's name", x.move(3, 0, (name + 1) % 8), -5);
                due("onto its own name", x.move(3, 2, (name + 1) % 8), 0);
                due("that name elsewhere", x.move(3, 2, name), 0);
                x.remove(1);
                due("the other is gone", x.move(3, 0, name), 0);
            }
        }
    }

    private static void moveTooDeep() {
        sentence("move: -6 if an entry would get a depth greater than 5 (the entry itself)");
        for (boolean asFile : KINDS) {
            for (int parent = 0; parent <= 5; parent++) {
                TreeHasher x = chain(5, 0);
                make(x, asFile, 0, 7);
                due("to depth " + (parent + 1), x.move(6, parent, 7), parent == 5 ? -6 : 0);
                due("path", x.path(6), parent == 5 ? 8 : x.path(parent) * 9 + 8);
            }
        }
    }

    private static void moveTooDeepBelow() {
        sentence("move: -6 if an entry would get a depth greater than 5 (one below it)");
        for (int height = 0; height <= 4; height++) {
            for (int parent = 0; parent <= 4; parent++) {
                boolean refused = parent + 1 + height > 5;
                TreeHasher x = chain(4, 0);
                int lowest = x.directory(0, 7);
                for (int level = 0; level < height; level++) {
                    lowest = x.directory(lowest, 0);
                }
                // The deepest entry shall have neither the greatest number nor the greatest name.
                for (int name = 1; name < 4 && height > 0; name++) {
                    x.file(5, name, 1);
                }
                int before = x.path(5);
                due("height " + height + " to depth " + (parent + 1), x.move(5, parent, 7), refused ? -6 : 0);
                due("path", x.path(5), refused ? before : x.path(parent) * 9 + 8);
            }
        }
    }

    /** The entry that would be too deep has each number once, with free numbers before it and after it. */
    private static void moveTooDeepByEachNumber() {
        for (int low = 1; low < 24; low++) {
            int top = low < 4 ? low % 3 + 1 : 1 + (low - 4) / 8;
            TreeHasher x = full();
            for (int other = 23; other > 0; other--) {
                if (other != low && other != top) {
                    x.remove(other);
                }
            }
            if (low < 4) {
                due(low + " below " + top, x.move(low, top, 0), 0);
            }
            int third = x.directory(x.directory(x.directory(0, 7), 7), 7);
            int fourth = x.directory(third, 7);
            due("entry " + low + " to depth 6", x.move(top, fourth, 0), -6);
            due("entry " + low + " to depth 5", x.move(top, third, 0), 0);
            due("its parent", x.lookup(x.path(low) / 9), top);
        }
    }

    private static void moveWithoutChange() {
        sentence("move: otherwise 0 (also if nothing changes)");
        TreeHasher x = chain(5, 6);
        for (int entry = 1; entry <= 5; entry++) {
            int before = x.path(entry);
            due("moving " + entry + " to where it is", x.move(entry, entry - 1, 6), 0);
            due("its path", x.path(entry), before);
        }
        due("renaming above depth 5", x.move(1, 0, 0), 0);
        due("renaming at depth 5", x.move(5, 4, 0), 0);
        due("its path", x.path(5), pathOf(0, 6, 6, 6, 0));
        due("entries", x.entries(), 6);
    }

    private static void moveInFullTree() {
        sentence("move: otherwise 0 (in a full tree)");
        TreeHasher x = full();
        due("a directory with eight files", x.move(1, 3, 7), 0);
        due("the last entry", x.move(23, 0, 7), 0);
        due("entries", x.entries(), 24);
        due("path(11)", x.path(11), pathOf(2, 7, 7));
        due("path(23)", x.path(23), 8);
        due("content(23)", x.content(23), 23);
    }

    /** -3 for names outside 0 .. 7, in an object where no other refusal holds; the names 0 .. 7 are taken. */
    private static void onlyGoodNames(String call, Ask ask) {
        for (int name : NOT_NAMES) {
            due(call + " with name " + name, ask.of(chain(2, 3), name), -3);
        }
        for (int name = 0; name < 8; name++) {
            due(call + " with name " + name + " refused", ask.of(chain(2, 3), name) < 0 ? 1 : 0, 0);
        }
    }
}
