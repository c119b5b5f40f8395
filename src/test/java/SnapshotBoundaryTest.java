/** The bounds of promises 12 to 16 and 19: snapshots, from the empty one to two full ones that share nothing. */
public final class SnapshotBoundaryTest extends Checks {
    public static void main(String[] args) {
        sentence("save: -1 if snapshot is not good");
        onlyGoodSnapshots("save", TreeHasher::save, -1, new int[] {6, 6, 6});
        saveCounts();
        sentence("restore: -1 if snapshot is not good");
        onlyGoodSnapshots("restore", TreeHasher::restore, -1, new int[] {2, 4, 6});
        restoreTakesAwayFirst();
        restoreInOrder();
        restoreCounts();
        sentence("differing: -1 if a or b is not good");
        onlyGoodSnapshots("differing, a", (x, a) -> x.differing(a, 0), -1, new int[] {0, 2, 4});
        onlyGoodSnapshots("differing, b", (x, b) -> x.differing(2, b), -1, new int[] {4, 2, 0});
        onlyGoodSnapshots("differing, both", (x, a) -> x.differing(a, a), -1, new int[] {0, 0, 0});
        differingCounts();
        sentence("difference: -1 if a or b is not good");
        onlyGoodSnapshots("difference, a", (x, a) -> x.difference(a, 0, 1), -1, new int[] {-2, 4, 4});
        onlyGoodSnapshots("difference, b", (x, b) -> x.difference(2, b, 1), -1, new int[] {4, 6, -2});
        onlyGoodSnapshots("difference, both", (x, a) -> x.difference(a, a, 0), -1, new int[] {-2, -2, -2});
        differenceInOrder();
        noSuchDifference();
        sentence("changed: -1 if snapshot is not good");
        onlyGoodSnapshots("changed", TreeHasher::changed, -1, new int[] {4, 2, 0});
        changedCounts();
        sentence("repeated: 0 if .. snapshot is not good");
        onlyGoodSnapshots("repeated", TreeHasher::repeated, 0, new int[] {-3, -3, -3});
        repeatedNone();
        repeatedMoreThanOnce();
        repeatedInEach();
        repeatedLeast();
        end();
    }

    private static void saveCounts() {
        sentence("save: otherwise answers how many paths it has");
        for (int snapshot = 0; snapshot < 3; snapshot++) {
            TreeHasher x = full();
            due("the full tree", x.save(snapshot), 23);
            due("the full tree again", x.save(snapshot), 23);
            due("changed", x.changed(snapshot), 0);
            x.remove(23);
            due("one path less", x.save(snapshot), 22);
            due("changed", x.changed(snapshot), 0);
            x.remove(4);
            due("a number free before others", x.save(snapshot), 21);
            due("changed", x.changed(snapshot), 0);
            x.restore((snapshot + 1) % 3);
            due("the empty tree", x.save(snapshot), 0);
            due("changed", x.changed(snapshot), 0);
            due("restored", x.restore(snapshot), 0);
        }
    }

    private static void restoreTakesAwayFirst() {
        sentence("restore: All entries but the root are taken away first");
        TreeHasher x = full();
        x.save(0);
        x.move(1, 0, 7);
        due("a full tree over a full one", x.restore(0), 23);
        due("entries", x.entries(), 24);
        due("the old path", x.lookup(8), -1);
        due("the saved path", x.lookup(1), 1);
        due("changed", x.changed(0), 0);
        due("the empty tree over a full one", x.restore(1), 0);
        due("entries", x.entries(), 1);
        due("a full tree over the empty one", x.restore(0), 23);
        due("changed", x.changed(0), 0);
    }

    private static void restoreInOrder() {
        sentence("restore: in rising order of (depth, path number), each as a new entry with the least free number");
        // Made from the greatest path to the least, and with the deepest among the first.
        TreeHasher x = chain(5, 7);
        for (int name = 6; name >= 0; name--) {
            x.file(0, name, name);
            x.directory(4, name);
        }
        due("save", x.save(2), 19);
        x.remove(1);
        due("restore", x.restore(2), 19);
        for (int name = 0; name < 7; name++) {
            due("depth 1", x.path(1 + name), name + 1);
            due("its kind", x.kind(1 + name), 1);
            due("its content", x.content(1 + name), name);
            due("depth 5", x.path(12 + name), pathOf(7, 7, 7, 7, name));
            due("its kind", x.kind(12 + name), 0);
        }
        for (int depth = 1; depth <= 4; depth++) {
            due("depth " + depth, x.path(7 + depth), power(depth) - 1);
        }
        due("the last", x.path(19), 59048);
        due("the next free number", x.directory(8, 0), 20);
        due("depth 5 stays the last", x.directory(19, 0), -5);
    }

    private static void restoreCounts() {
        sentence("restore: otherwise answers how many paths it has");
        TreeHasher x = full();
        due("the empty one", x.restore(0), 0);
        due("entries", x.entries(), 1);
        x.file(0, 7, 4);
        x.save(1);
        due("one path", x.restore(1), 1);
        due("entries", x.entries(), 2);
        TreeHasher y = full();
        y.save(2);
        due("23 paths", y.restore(2), 23);
        due("entries", y.entries(), 24);
        due("no room", y.directory(0, 7), -6);
    }

    /** Snapshots 0 and 1 have 23 paths each and share none of them; snapshot 2 is empty. */
    private static TreeHasher farApart() {
        TreeHasher x = full();
        x.save(0);
        for (int entry = 1; entry < 4; entry++) {
            x.move(entry, 0, entry + 4);
        }
        x.save(1);
        return x;
    }

    private static void differingCounts() {
        sentence("differing: At how many paths two snapshots differ");
        TreeHasher x = farApart();
        due("two that share nothing", x.differing(0, 1), 46);
        due("the other way", x.differing(1, 0), 46);
        due("with the empty one", x.differing(0, 2), 23);
        due("the other way", x.differing(2, 0), 23);
        for (int snapshot = 0; snapshot < 3; snapshot++) {
            due("with itself", x.differing(snapshot, snapshot), 0);
        }
        due("two empty ones", new TreeHasher().differing(0, 2), 0);
        x.save(0);
        due("two of the same tree", x.differing(0, 1), 0);
    }

    private static void differenceInOrder() {
        sentence("difference: The i-th path, in rising order of path numbers (0 for the first)");
        TreeHasher x = farApart();
        int last = 0;
        for (int i = 0; i < 46; i++) {
            int path = x.difference(0, 1, i);
            due("path " + i + " rises", path > last ? 1 : 0, 1);
            due("path " + i + " the other way", x.difference(1, 0, i), path);
            last = path;
        }
        due("the first", x.difference(0, 1, 0), 1);
        due("the fourth", x.difference(0, 1, 3), 6);
        due("the last", x.difference(0, 1, 45), pathOf(7, 3));
        // A greater depth is a greater number, whatever the names.
        TreeHasher y = chain(2, 0);
        y.file(0, 7, 1);
        y.save(1);
        due("depth 1, the least name", y.difference(0, 1, 0), 1);
        due("depth 1, the greatest name", y.difference(0, 1, 1), 8);
        due("depth 2, the least names", y.difference(0, 1, 2), 10);
    }

    private static void noSuchDifference() {
        sentence("difference: -2 if there is no such path");
        TreeHasher x = farApart();
        int[] never = {-1, -46, LEAST, LEAST + 1, 46, 47, 64, 59049, MOST};
        for (int i : never) {
            due("i = " + i, x.difference(0, 1, i), -2);
        }
        due("i = 22 with the empty one", x.difference(0, 2, 22), pathOf(2, 3));
        due("i = 23 with the empty one", x.difference(0, 2, 23), -2);
        TreeHasher y = new TreeHasher();
        due("two empty ones", y.difference(0, 1, 0), -2);
        due("two empty ones, i = -1", y.difference(0, 1, -1), -2);
        y.file(0, 7, 1);
        y.save(1);
        due("one path, i = -1", y.difference(0, 1, -1), -2);
        due("one path, i = 0", y.difference(0, 1, 0), 8);
        for (int i = 1; i < 60; i++) {
            due("one path, i = " + i, y.difference(0, 1, i), -2);
        }
        due("with itself", y.difference(1, 1, 0), -2);
    }

    private static void changedCounts() {
        sentence("changed: At how many paths the tree as it is now differs from a snapshot");
        TreeHasher x = farApart();
        due("one that shares nothing", x.changed(0), 46);
        due("the tree itself", x.changed(1), 0);
        due("the empty one", x.changed(2), 23);
        x.restore(2);
        due("the empty tree from a full one", x.changed(0), 23);
        due("the empty tree from the empty one", x.changed(2), 0);
        TreeHasher y = full();
        y.save(0);
        y.write(23, 22);
        due("the last file's content", y.changed(0), 1);
        y.write(23, 23);
        due("as before", y.changed(0), 0);
        // What is compared are paths, not numbers of entries.
        y.move(4, 0, 7);
        y.move(5, 1, 0);
        y.move(4, 1, 1);
        due("two files changed places", y.changed(0), 2);
        y.write(4, 5);
        y.write(5, 4);
        due("and their contents", y.changed(0), 0);
    }

    private static void repeatedNone() {
        sentence("repeated: 0 if there is none");
        due("the empty snapshot", new TreeHasher().repeated(0), 0);
        TreeHasher x = full();
        x.save(0);
        due("20 files, none twice", x.repeated(0), 0);
        TreeHasher y = new TreeHasher();
        for (int name = 0; name < 8; name++) {
            y.directory(0, name);
        }
        y.save(0);
        due("directories alone", y.repeated(0), 0);
        y.remove(8);
        y.file(0, 7, 6);
        y.save(0);
        due("one file", y.repeated(0), 0);
    }

    private static void repeatedMoreThanOnce() {
        sentence("repeated: a file content that stands in the snapshot at more than one path");
        TreeHasher x = full();
        x.write(23, 4);
        x.save(0);
        due("the first and the last path", x.repeated(0), 4);
        x.write(23, 22);
        due("the tree doesn't count", x.repeated(0), 4);
        x.save(0);
        due("the last two paths", x.repeated(0), 22);
        x.write(23, 23);
        x.save(1);
        due("no two", x.repeated(1), 0);
        due("another snapshot", x.repeated(0), 22);
        for (int entry = 4; entry < 24; entry++) {
            x.write(entry, -8);
        }
        x.save(2);
        due("all files", x.repeated(2), -8);
        TreeHasher y = new TreeHasher();
        y.file(0, 0, 5);
        y.save(0);
        y.save(1);
        due("in two snapshots once each", y.repeated(0), 0);
        due("in two snapshots once each", y.repeated(1), 0);
        y.file(0, 1, 5);
        y.save(0);
        y.remove(2);
        y.save(0);
        due("not any more after a smaller save", y.repeated(0), 0);
    }

    private static void repeatedInEach() {
        sentence("repeated: a file content that stands in the snapshot");
        for (int third = 0; third < 3; third++) {
            TreeHasher x = full();
            int[] saved = {third, (third + 1) % 3, (third + 2) % 3};
            for (int i = 0; i < 3; i++) {
                // The pair moves to other paths from one snapshot to the next.
                x.write(4 + 2 * i, -1 - i);
                x.write(5 + 2 * i, -1 - i);
                x.save(saved[i]);
                x.write(4 + 2 * i, 104 + i);
                x.write(5 + 2 * i, 204 + i);
            }
            for (int i = 0; i < 3; i++) {
                due("repeated(" + saved[i] + ")", x.repeated(saved[i]), -1 - i);
            }
        }
    }

    private static void repeatedLeast() {
        sentence("repeated: (The least content as an int.)");
        for (int first : CONTENTS) {
            for (int second : CONTENTS) {
                TreeHasher x = new TreeHasher();
                x.file(0, 0, first);
                x.file(0, 1, second);
                x.file(0, 2, second);
                x.save(0);
                due(first + " once and " + second + " twice", x.repeated(0), second);
                x.file(0, 3, first);
                x.save(0);
                due(first + " and " + second + " twice", x.repeated(0), Math.min(first, second));
            }
        }
    }

    private static void onlyGoodSnapshots(String call, Ask ask, int refusal, int[] answers) {
        for (int snapshot : NOT_SNAPSHOTS) {
            due(call + " of " + snapshot + " in a new object", ask.of(new TreeHasher(), snapshot), refusal);
            due(call + " of " + snapshot, ask.of(threeTrees(), snapshot), refusal);
        }
        for (int snapshot = 0; snapshot < 3; snapshot++) {
            due(call + " of " + snapshot, ask.of(threeTrees(), snapshot), answers[snapshot]);
        }
    }

    /** Snapshots of two files with content -3, of four (7 in the others) and of six (9); the tree has six files. */
    private static TreeHasher threeTrees() {
        TreeHasher x = new TreeHasher();
        int[] contents = {-3, 7, 9};
        for (int snapshot = 0; snapshot < 3; snapshot++) {
            x.file(0, 2 * snapshot, contents[snapshot]);
            x.file(0, 2 * snapshot + 1, contents[snapshot]);
            due("making three snapshots", x.save(snapshot), 2 * snapshot + 2);
        }
        return x;
    }
}
