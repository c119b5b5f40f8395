/** The bounds of promises 7 to 11, 17 and 18: the questions about entries. */
public final class QuestionBoundaryTest extends Checks {
    public static void main(String[] args) {
        asking();
        comparing();
        end();
    }

    private static void asking() {
        sentence("kind: -1 if entry is not good");
        onlyGoodEntries("kind", TreeHasher::kind, -1);
        kinds();
        contents();
        sentence("path: -1 if entry is not good");
        onlyGoodEntries("path", TreeHasher::path, -1);
        pathOfRoot();
        lookupOfRoot();
        lookupOfAll();
        lookupOfNone();
        entryCounts();
    }

    private static void kinds() {
        sentence("kind: 0 if the entry is a directory, 1 if it is a file");
        TreeHasher x = full();
        for (int entry = 0; entry < 24; entry++) {
            due("kind(" + entry + ")", x.kind(entry), entry < 4 ? 0 : 1);
        }
        for (int content : CONTENTS) {
            x.write(23, content);
            due("a file of " + content, x.kind(23), 1);
        }
    }

    private static void contents() {
        sentence("content: 0 if entry is not good or a directory");
        TreeHasher x = full();
        for (int entry = 0; entry < 24; entry++) {
            due("content(" + entry + ")", x.content(entry), entry < 4 ? 0 : entry);
        }
        for (int entry : NOT_ENTRIES) {
            due("content(" + entry + ")", x.content(entry), 0);
        }
        x.remove(23);
        due("removed", x.content(23), 0);
        x.remove(2);
        due("removed with its parent", x.content(12), 0);
        due("a directory in a removed file's place", x.directory(0, 7), 2);
        due("and the next", x.directory(0, 6), 12);
        due("its content", x.content(12), 0);
        x.restore(0);
        due("not restored", x.content(4), 0);
    }

    private static void pathOfRoot() {
        sentence("path: 0 for the root");
        due("in a new object", new TreeHasher().path(0), 0);
        due("in a full tree", full().path(0), 0);
        due("above a path of depth 5", chain(5, 7).path(0), 0);
    }

    private static void lookupOfRoot() {
        sentence("lookup: (0 for the root)");
        due("in a new object", new TreeHasher().lookup(0), 0);
        due("in a full tree", full().lookup(0), 0);
        due("above a path of depth 5", chain(5, 7).lookup(0), 0);
    }

    private static void lookupOfAll() {
        sentence("lookup: The entry with this path");
        TreeHasher x = full();
        for (int entry = 0; entry < 24; entry++) {
            due("path of " + entry, x.lookup(x.path(entry)), entry);
        }
        TreeHasher least = chain(5, 0);
        TreeHasher greatest = chain(5, 7);
        for (int depth = 1; depth <= 5; depth++) {
            due("least path of depth " + depth, least.lookup(ones(depth)), depth);
            due("greatest path of depth " + depth, greatest.lookup(power(depth) - 1), depth);
        }
    }

    private static void lookupOfNone() {
        sentence("lookup: -1 if there is none");
        TreeHasher x = chain(4, 7);
        x.file(4, 7, 3);
        int[] none = {-1, 1, 7, 9, 10, 59047, 59049, 59048 + 59049, 59048 * 9 + 8, 8 * 59049 + 59048, MOST, LEAST, -8,
            -80, -59048, LEAST + 8, LEAST + 59048};
        for (int path : none) {
            due("lookup(" + path + ")", x.lookup(path), -1);
        }
        // A digit 0 is no name: neither last, nor inside, nor in front of a path's digits.
        int[] zeros = {72, 81, 648, 656, 720, 5832, 52488, 59040, 59049 + 8, 2 * 59049, 81 * 59049, 6561 * 59049};
        for (int path : zeros) {
            due("lookup(" + path + "), a digit 0", x.lookup(path), -1);
        }
        TreeHasher y = new TreeHasher();
        y.file(0, 7, 3);
        due("below a file", y.lookup(80), -1);
        y.remove(1);
        due("removed", y.lookup(8), -1);
        for (int path = 1; path < 200; path++) {
            due("lookup(" + path + ") in the empty tree", y.lookup(path), -1);
        }
    }

    private static void entryCounts() {
        sentence("entries: How many entries there are, the root included");
        TreeHasher x = new TreeHasher();
        due("the empty tree", x.entries(), 1);
        x.directory(0, 0);
        due("one more", x.entries(), 2);
        x.remove(1);
        due("empty again", x.entries(), 1);
        TreeHasher y = full();
        due("the full tree", y.entries(), 24);
        y.remove(23);
        due("one less", y.entries(), 23);
        y.remove(1);
        due("nine less", y.entries(), 14);
    }

    private static void comparing() {
        sentence("alike: -1 if x or y is not good");
        onlyGoodEntries("alike, x", (x, entry) -> x.alike(entry, 0), -1);
        onlyGoodEntries("alike, y", (x, entry) -> x.alike(0, entry), -1);
        onlyGoodEntries("alike, both", (x, entry) -> x.alike(entry, entry), -1);
        alikeFiles();
        alikeDirectories();
        alikeFarBelow();
        alikeByEachNumber();
        alikeOtherwise();
        sentence("twins: -1 if entry is not good");
        onlyGoodEntries("twins", TreeHasher::twins, -1);
        twinsItselfIncluded();
        twinsRootIncluded();
        mostTwins();
    }

    private static void alikeFiles() {
        sentence("alike: both files with the same content");
        for (int first : CONTENTS) {
            for (int second : CONTENTS) {
                TreeHasher x = chain(4, 0);
                x.file(4, 0, first);
                x.file(0, 7, second);
                due("files of " + first + " and " + second, x.alike(5, 6), first == second ? 1 : 0);
                due("the other way", x.alike(6, 5), first == second ? 1 : 0);
            }
        }
    }

    private static void alikeDirectories() {
        sentence("alike: both directories below which the same names stand with alike entries");
        TreeHasher x = new TreeHasher();
        due("the root and itself", x.alike(0, 0), 1);
        x.directory(0, 0);
        x.directory(0, 7);
        due("two empty ones", x.alike(1, 2), 1);
        for (int name = 0; name < 8; name++) {
            int first = x.file(1, name, name);
            due("one name more", x.alike(1, 2), 0);
            due("the other way", x.alike(2, 1), 0);
            int second = x.file(2, name, name);
            due("the same names", x.alike(1, 2), 1);
            x.write(second, -1);
            due("another content", x.alike(1, 2), 0);
            x.write(first, -1);
            due("that content in both", x.alike(1, 2), 1);
        }
        due("a directory and its only like", x.twins(1), 2);
        x.write(3, 0);
        x.write(6, 0);
        due("the same contents at other names", x.alike(1, 2), 0);
    }

    private static void alikeFarBelow() {
        sentence("alike: .. the same names stand with alike entries (at depth 5)");
        for (boolean asFile : KINDS) {
            for (int depth = 1; depth <= 4; depth++) {
                TreeHasher x = new TreeHasher();
                int left = x.directory(0, 0);
                int right = x.directory(0, 1);
                int lowLeft = left;
                int lowRight = right;
                for (int level = 1; level < depth; level++) {
                    lowLeft = x.directory(lowLeft, 7);
                    lowRight = x.directory(lowRight, 7);
                }
                due("the same so far", x.alike(left, right), 1);
                int first = make(x, asFile, lowLeft, 6);
                due("one more", x.alike(left, right), 0);
                due("the other way", x.alike(right, left), 0);
                int second = make(x, asFile, lowRight, 5);
                due("another name", x.alike(left, right), 0);
                x.move(second, lowRight, 6);
                due("the same name", x.alike(left, right), 1);
                x.remove(first);
                make(x, !asFile, lowLeft, 6);
                due("another kind", x.alike(left, right), 0);
            }
        }
    }

    /** Two directories that differ in one entry alone, which has each number once. */
    private static void alikeByEachNumber() {
        for (int number = 4; number < 24; number++) {
            TreeHasher x = full();
            int parent = 1 + (number - 4) / 8;
            due("moving it away", x.move(number, 0, 7), 0);
            for (int other = 23; other > 0; other--) {
                if (other != number && other != parent) {
                    x.remove(other);
                }
            }
            int beside = x.directory(0, 6);
            due("two empty ones beside " + number, x.alike(parent, beside), 1);
            due("moving it back", x.move(number, parent, 7), 0);
            due("one with " + number + " in it", x.alike(parent, beside), 0);
            due("the other way", x.alike(beside, parent), 0);
        }
    }

    private static void alikeOtherwise() {
        sentence("alike: otherwise 0");
        for (int content : CONTENTS) {
            TreeHasher x = new TreeHasher();
            x.directory(0, 0);
            x.file(0, 1, content);
            due("a directory and a file", x.alike(1, 2), 0);
            due("a file and a directory", x.alike(2, 1), 0);
            due("the root and a file", x.alike(0, 2), 0);
            due("the root and its child", x.alike(0, 1), 0);
        }
        TreeHasher y = chain(5, 7);
        for (int first = 0; first <= 5; first++) {
            for (int second = 0; second <= 5; second++) {
                due("in a chain " + first + ", " + second, y.alike(first, second), first == second ? 1 : 0);
            }
        }
    }

    private static void twinsItselfIncluded() {
        sentence("twins: How many existing entries .. are alike to this one, itself included");
        TreeHasher x = full();
        for (int entry = 0; entry < 24; entry++) {
            due("twins(" + entry + ")", x.twins(entry), 1);
        }
        x.write(23, 4);
        due("the first file", x.twins(4), 2);
        due("the last file", x.twins(23), 2);
        x.remove(23);
        due("one that isn't there any more", x.twins(4), 1);
    }

    private static void twinsRootIncluded() {
        sentence("twins: .. (the root included)");
        due("the root alone", new TreeHasher().twins(0), 1);
        TreeHasher x = full();
        due("the root of a full tree", x.twins(0), 1);
        due("restore", x.restore(0), 0);
        due("the root alone again", x.twins(0), 1);
        TreeHasher y = chain(5, 0);
        due("the root of a chain", y.twins(0), 1);
        due("the end of a chain", y.twins(5), 1);
    }

    private static void mostTwins() {
        sentence("twins: How many existing entries (in a full tree)");
        for (boolean asFile : KINDS) {
            TreeHasher x = chain(1, 0);
            x.directory(0, 1);
            for (int entry = 3; entry < 24; entry++) {
                int place = entry - 1;
                due("making 21 alike", make(x, asFile, place < 8 ? 0 : (place - 8) / 8 + 1, place % 8), entry);
            }
            due("the first", x.twins(3), 21);
            due("the last", x.twins(23), 21);
            due("the root", x.twins(0), 1);
            due("eight below", x.twins(1), 1);
            due("seven below", x.twins(2), 1);
        }
    }
}
