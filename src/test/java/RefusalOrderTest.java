/**
 * "In every method the tests are made in the order named": each two refusals of a method that can hold at once, and
 * the rows of three. Two that can't hold at once have a call that would look like both to a careless program.
 */
public final class RefusalOrderTest extends Checks {
    public static void main(String[] args) {
        for (boolean asFile : KINDS) {
            makeBadParent(asFile);
            makeBelowFile(asFile);
            makeBadName(asFile);
            makeTakenName(asFile);
            makeTooDeep(asFile);
        }
        write();
        remove();
        moveBadEntry();
        moveRoot();
        moveToBadParent();
        moveToFile();
        moveToBadName();
        moveBelowItself();
        moveOntoAnother();
        difference();
        end();
    }

    /** Directories 1 .. 5 below each other, 6 a file at depth 5, 7 a file of the root; names 0, 1 and 7. */
    private static TreeHasher deep() {
        TreeHasher x = new TreeHasher();
        for (int entry = 1; entry <= 5; entry++) {
            due("making a chain", x.directory(entry - 1, 0), entry);
        }
        due("making a file at depth 5", x.file(4, 1, 6), 6);
        due("making a file of the root", x.file(0, 7, 7), 7);
        return x;
    }

    /** The deep tree with directories 8 .. 23 below the root, 1 and 2, at names up to 6. */
    private static TreeHasher deepAndFull() {
        TreeHasher x = deep();
        for (int entry = 8; entry < 24; entry++) {
            due("filling the tree", x.directory((entry - 8) / 6, 1 + (entry - 8) % 6), entry);
        }
        return x;
    }

    private static String call(boolean asFile) {
        return asFile ? "file: " : "directory: ";
    }

    private static void makeBadParent(boolean asFile) {
        for (int parent : NOT_ENTRIES) {
            for (int name : NOT_NAMES) {
                due(call(asFile) + "-1 before -3", make(deep(), asFile, parent, name), -1);
                due(call(asFile) + "-1 before -3 and -6", make(deepAndFull(), asFile, parent, name), -1);
            }
            due(call(asFile) + "-1 before -6", make(deepAndFull(), asFile, parent, 7), -1);
        }
        for (int name : NOT_NAMES) {
            due(call(asFile) + "-1 before -3, not made yet", make(deep(), asFile, 23, name), -1);
        }
        TreeHasher x = deep();
        x.remove(7);
        due(call(asFile) + "-1, no more a file", make(x, asFile, 7, 0), -1);
        x.remove(1);
        due(call(asFile) + "-1, no more a parent with that name", make(x, asFile, 2, 0), -1);
        due(call(asFile) + "-1, no more at depth 5", make(x, asFile, 5, 0), -1);
    }

    private static void makeBelowFile(boolean asFile) {
        for (int name : NOT_NAMES) {
            due(call(asFile) + "-2 before -3", make(deep(), asFile, 7, name), -2);
            due(call(asFile) + "-2 before -3 and -5", make(deep(), asFile, 6, name), -2);
            due(call(asFile) + "-2 before -3 and -6", make(deepAndFull(), asFile, 7, name), -2);
        }
        due(call(asFile) + "-2, a file with a taken name beside it", make(deep(), asFile, 7, 0), -2);
        due(call(asFile) + "-2 before -5", make(deep(), asFile, 6, 0), -2);
        due(call(asFile) + "-2 before -6", make(deepAndFull(), asFile, 7, 0), -2);
        due(call(asFile) + "-2 before -5 and -6", make(deepAndFull(), asFile, 6, 0), -2);
    }

    private static void makeBadName(boolean asFile) {
        for (int name : NOT_NAMES) {
            due(call(asFile) + "-3, all else is good", make(deep(), asFile, 0, name), -3);
            due(call(asFile) + "-3 before -5", make(deep(), asFile, 5, name), -3);
            due(call(asFile) + "-3 before -6", make(deepAndFull(), asFile, 0, name), -3);
            due(call(asFile) + "-3 before -5 and -6", make(deepAndFull(), asFile, 5, name), -3);
        }
    }

    private static void makeTakenName(boolean asFile) {
        due(call(asFile) + "-4 alone", make(deep(), asFile, 0, 0), -4);
        due(call(asFile) + "-4 before -6, a directory", make(deepAndFull(), asFile, 0, 0), -4);
        due(call(asFile) + "-4 before -6, a file", make(deepAndFull(), asFile, 0, 7), -4);
        due(call(asFile) + "-4 before -6, the child at depth 5", make(deepAndFull(), asFile, 4, 1), -4);
    }

    private static void makeTooDeep(boolean asFile) {
        due(call(asFile) + "-5 alone", make(deep(), asFile, 5, 0), -5);
        due(call(asFile) + "-5 before -6", make(deepAndFull(), asFile, 5, 0), -5);
        due(call(asFile) + "-6 alone", make(deepAndFull(), asFile, 4, 7), -6);
    }

    private static void write() {
        TreeHasher x = deep();
        x.remove(5);
        due("write: -1, no more a directory", x.write(5, 1), -1);
        due("write: -2, a directory", x.write(4, 1), -2);
    }

    private static void remove() {
        TreeHasher x = new TreeHasher();
        due("remove: -2, the root is good", x.remove(0), -2);
        due("remove: -1, another isn't", x.remove(1), -1);
    }

    private static void moveBadEntry() {
        for (int entry : NOT_ENTRIES) {
            for (int parent : NOT_ENTRIES) {
                due("move: -1 before -2", deep().move(entry, parent, 3), -1);
                due("move: -1 before -2 and -3", deep().move(entry, parent, 8), -1);
            }
            due("move: -1 before -2, a file", deep().move(entry, 7, 3), -1);
            due("move: -1 before -2 and -3, a file", deep().move(entry, 7, -1), -1);
            for (int name : NOT_NAMES) {
                due("move: -1 before -3", deep().move(entry, 0, name), -1);
                due("move: -1 before -3 and -6", deep().move(entry, 5, name), -1);
            }
            due("move: -1 before -5", deep().move(entry, 0, 0), -1);
            due("move: -1 before -6", deep().move(entry, 5, 3), -1);
        }
        TreeHasher x = deep();
        x.remove(2);
        due("move: -1 before -2, both removed", x.move(2, 2, 3), -1);
        due("move: -1 before -2, one below the other once", x.move(2, 3, 3), -1);
        due("move: -1 before -5, removed", x.move(3, 0, 0), -1);
    }

    private static void moveRoot() {
        due("move: -1 before -2, the root", deep().move(0, 24, 3), -1);
        due("move: -1 before -2, the root to a file", deep().move(0, 7, 3), -1);
        due("move: -1 before -3, the root", deep().move(0, 1, 8), -1);
        due("move: -1 before -4, the root to itself", deep().move(0, 0, 3), -1);
        due("move: -1 before -4, the root below itself", deep().move(0, 1, 3), -1);
        due("move: -1 before -4 and -5, the root", deep().move(0, 0, 0), -1);
        due("move: -1 before -4 and -6, the root", deep().move(0, 5, 3), -1);
    }

    private static void moveToBadParent() {
        for (int parent : NOT_ENTRIES) {
            for (int name : NOT_NAMES) {
                due("move: -2 before -3", deep().move(1, parent, name), -2);
            }
            due("move: -2 alone", deep().move(1, parent, 3), -2);
        }
        TreeHasher x = deep();
        x.remove(3);
        due("move: -2, no more below the entry", x.move(2, 3, 3), -2);
        due("move: -2, no more at depth 5", x.move(7, 5, 3), -2);
        due("move: -2, no more a parent with that name", x.move(7, 4, 1), -2);
    }

    private static void moveToFile() {
        for (int name : NOT_NAMES) {
            due("move: -2 before -3, a file", deep().move(1, 7, name), -2);
            due("move: -2 before -3 and -4, a file to itself", deep().move(7, 7, name), -2);
        }
        due("move: -2 before -4, a file to itself", deep().move(7, 7, 3), -2);
        due("move: -2 before -4, a directory to a file below it", deep().move(4, 6, 3), -2);
        due("move: -2 before -4 and -6, far below it", deep().move(1, 6, 3), -2);
        due("move: -2 before -6, a file at depth 5", deep().move(7, 6, 3), -2);
    }

    private static void moveToBadName() {
        for (int name : NOT_NAMES) {
            due("move: -3 alone", deep().move(2, 0, name), -3);
            due("move: -3 before -4, itself", deep().move(1, 1, name), -3);
            due("move: -3 before -4, below itself", deep().move(1, 2, name), -3);
            due("move: -3 before -4 and -6", deep().move(1, 5, name), -3);
            due("move: -3 before -6", deep().move(7, 5, name), -3);
        }
    }

    private static void moveBelowItself() {
        due("move: -4 alone", deep().move(5, 5, 3), -4);
        due("move: -4 before -5, itself", deep().move(3, 3, 0), -4);
        due("move: -4 before -5, below itself", deep().move(3, 4, 0), -4);
        due("move: -4 before -5, a file's name", deep().move(3, 4, 1), -4);
        due("move: -4 before -6, itself", deep().move(1, 1, 3), -4);
        due("move: -4 before -6, below itself", deep().move(1, 5, 3), -4);
        due("move: -4 before -5 and -6, below itself", deep().move(1, 3, 0), -4);
        due("move: -4 before -6, at depth 5", deep().move(5, 5, 0), -4);
    }

    /** A directory 8 of the root with one child, beside the chain. */
    private static TreeHasher besideDeep() {
        TreeHasher x = deep();
        due("making one beside", x.directory(0, 3), 8);
        due("making its child", x.file(8, 3, 1), 9);
        return x;
    }

    private static void moveOntoAnother() {
        due("move: -5 alone", besideDeep().move(8, 0, 0), -5);
        due("move: -5 before -6, a directory's name", besideDeep().move(8, 4, 0), -5);
        due("move: -5 before -6, a file's name", besideDeep().move(8, 4, 1), -5);
        due("move: -6 alone, by its child", besideDeep().move(8, 4, 3), -6);
        due("move: -6 alone, by itself", besideDeep().move(9, 5, 3), -6);
        due("move: neither, its own name at depth 5", besideDeep().move(5, 4, 0), 0);
        due("move: neither, its own name above depth 5", besideDeep().move(1, 0, 0), 0);
    }

    private static void difference() {
        int[] noSuch = {-1, 1, LEAST, MOST};
        for (int snapshot : NOT_SNAPSHOTS) {
            for (int i : noSuch) {
                due("difference: -1 before -2, a", oneSaved().difference(snapshot, 0, i), -1);
                due("difference: -1 before -2, b", oneSaved().difference(0, snapshot, i), -1);
                due("difference: -1 before -2, both", oneSaved().difference(snapshot, snapshot, i), -1);
            }
        }
        for (int i : noSuch) {
            due("difference: -2 alone", oneSaved().difference(0, 1, i), -2);
        }
        due("difference: neither", oneSaved().difference(0, 1, 0), 8);
    }

    private static TreeHasher oneSaved() {
        TreeHasher x = new TreeHasher();
        x.file(0, 7, 1);
        due("saving one path", x.save(0), 1);
        return x;
    }
}
