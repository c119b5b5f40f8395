import java.util.TreeSet;

/** The bounds that the section "Terms" names: the last value on each side and the first beyond it. */
public final class TermsBoundaryTest extends Checks {
    public static void main(String[] args) {
        calls512();
        entries0To23();
        rootAlwaysExists();
        names0To7();
        contentAnyInt();
        noNameTwice();
        depthAtMost5();
        leastNumber();
        pathDigits();
        pathsBelow59049();
        emptySnapshotsAtFirst();
        threeSnapshots();
        differInJustOne();
        differInKind();
        differInContent();
        end();
    }

    private static void calls512() {
        sentence("An object is used for at most 512 calls");
        TreeHasher x = new TreeHasher();
        x.file(0, 7, 6);
        x.save(1);
        for (int call = 3; call < 509; call += 2) {
            due("call " + call, x.directory(0, 0), 2);
            due("call " + (call + 1), x.remove(2), 1);
        }
        due("call 509", x.changed(1), 0);
        due("call 510", x.write(1, 8), 0);
        due("call 511", x.restore(1), 1);
        due("call 512", x.content(1), 6);
    }

    private static void entries0To23() {
        sentence("ENTRIES are numbered 0 .. 23");
        TreeHasher x = full();
        TreeSet<Integer> paths = new TreeSet<>();
        for (int entry = 0; entry < 24; entry++) {
            paths.add(x.path(entry));
        }
        due("how many paths 24 entries have", paths.size(), 24);
        due("the least path", paths.first(), 0);
        due("kind(23)", x.kind(23), 1);
        due("kind(24)", x.kind(24), -1);
        due("kind(-1)", x.kind(-1), -1);
    }

    private static void rootAlwaysExists() {
        sentence("entry 0 is the ROOT, a directory that always exists");
        TreeHasher x = full();
        due("kind(0) in a full tree", x.kind(0), 0);
        due("remove(0)", x.remove(0), -2);
        due("kind(0) after it", x.kind(0), 0);
        due("restore(0)", x.restore(0), 0);
        due("kind(0) in an emptied tree", x.kind(0), 0);
        due("path(0)", x.path(0), 0);
        due("a new entry isn't the root", x.file(0, 0, 0), 1);
    }

    private static void names0To7() {
        sentence("a NAME 0 .. 7");
        TreeHasher x = new TreeHasher();
        for (int name = 0; name < 8; name++) {
            due("name " + name, make(x, name % 2 == 1, 0, name), name + 1);
            due("its path", x.path(name + 1), name + 1);
        }
        due("name 8", x.directory(0, 8), -3);
        due("name -1", x.directory(0, -1), -3);
        due("entries", x.entries(), 9);
    }

    private static void contentAnyInt() {
        sentence("a CONTENT (any int)");
        for (int content : CONTENTS) {
            TreeHasher x = new TreeHasher();
            due("file of " + content, x.file(0, 0, content), 1);
            due("content", x.content(1), content);
            due("another file", x.file(0, 1, 77), 2);
            due("write of " + content, x.write(2, content), 0);
            due("content", x.content(2), content);
            due("alike", x.alike(1, 2), 1);
            due("save", x.save(0), 2);
            due("repeated", x.repeated(0), content);
            due("remove", x.remove(1), 1);
            due("restore", x.restore(0), 2);
            due("content after restore", x.content(1), content);
            due("content after restore", x.content(2), content);
        }
    }

    private static void noNameTwice() {
        sentence("No two entries with the same parent have the same name");
        for (boolean first : KINDS) {
            for (boolean second : KINDS) {
                for (int name = 0; name < 8; name++) {
                    TreeHasher x = new TreeHasher();
                    due("the name", make(x, first, 0, name), 1);
                    due("the name again", make(x, second, 0, name), -4);
                    due("the next name", make(x, second, 0, (name + 1) % 8), 2);
                    due("moving onto the name", x.move(2, 0, name), -5);
                    due("entries", x.entries(), 3);
                }
            }
        }
        TreeHasher y = chain(2, 6);
        due("the same name with another parent", y.directory(2, 6), 3);
        due("the name is free after a move", y.move(1, 0, 5), 0);
        due("the name is free after a move", y.file(0, 6, 1), 4);
        due("the name is free after a removal", y.remove(4), 1);
        due("the name is free after a removal", y.directory(0, 6), 4);
    }

    private static void depthAtMost5() {
        sentence("The DEPTH of the root is 0 .. it is at most 5");
        for (boolean asFile : KINDS) {
            for (int depth = 0; depth < 5; depth++) {
                due("below depth " + depth, make(chain(depth, 7), asFile, depth, 0), depth + 1);
            }
            due("below depth 5", make(chain(5, 7), asFile, 5, 0), -5);
        }
    }

    private static void leastNumber() {
        sentence("A new entry gets the least number that no existing entry has");
        for (boolean asFile : KINDS) {
            for (int gap = 4; gap < 24; gap++) {
                TreeHasher x = full();
                due("removing " + gap, x.remove(gap), 1);
                due("the number " + gap, make(x, asFile, 0, 7), gap);
            }
            TreeHasher y = full();
            due("removing 2 and 12 .. 19", y.remove(2), 9);
            due("removing 5", y.remove(5), 1);
            due("the least of the gaps", make(y, asFile, 0, 7), 2);
            due("the second", make(y, asFile, 0, 6), 5);
            due("the third", make(y, asFile, 0, 5), 12);
            due("removing 23", y.remove(23), 1);
            due("the fourth", make(y, asFile, 0, 4), 13);
        }
    }

    private static void pathDigits() {
        sentence("the value of the digits n1 + 1, .., nd + 1 in base 9 (n1 + 1 the first digit)");
        TreeHasher x = chain(5, 0);
        int[] least = {0, 1, 10, 91, 820, 7381};
        TreeHasher y = chain(5, 7);
        int[] greatest = {0, 8, 80, 728, 6560, 59048};
        for (int depth = 0; depth <= 5; depth++) {
            due("least path of depth " + depth, x.path(depth), least[depth]);
            due("greatest path of depth " + depth, y.path(depth), greatest[depth]);
        }
        TreeHasher z = chain(1, 7);
        z.directory(1, 0);
        due("the first digit is that below the root", z.path(2), 8 * 9 + 1);
    }

    private static void pathsBelow59049() {
        sentence("Paths of depth at most 5 are numbers below 9^5 = 59049");
        TreeHasher x = chain(5, 7);
        due("path(5)", x.path(5), 59048);
        due("lookup(59048)", x.lookup(59048), 5);
        due("lookup(59049)", x.lookup(59049), -1);
        TreeHasher y = chain(4, 7);
        y.file(4, 7, 1);
        due("a file's path", y.path(5), 59048);
        y.save(0);
        due("in a snapshot", y.difference(0, 1, 4), 59048);
    }

    private static void emptySnapshotsAtFirst() {
        sentence("each holds a tree; the empty one (no paths) at first");
        for (int snapshot = 0; snapshot < 3; snapshot++) {
            TreeHasher x = new TreeHasher();
            due("changed(" + snapshot + ")", x.changed(snapshot), 0);
            x.file(0, 0, 1);
            x.file(0, 1, 1);
            due("changed(" + snapshot + ") with two files", x.changed(snapshot), 2);
            due("repeated(" + snapshot + ")", x.repeated(snapshot), 0);
            due("differing from the next", x.differing(snapshot, (snapshot + 1) % 3), 0);
            due("difference from the next", x.difference(snapshot, (snapshot + 1) % 3, 0), -2);
            due("restore(" + snapshot + ")", x.restore(snapshot), 0);
            due("entries", x.entries(), 1);
        }
    }

    private static void threeSnapshots() {
        sentence("There are three SNAPSHOTS, 0 .. 2");
        int[][] orders = {{0, 1, 2}, {2, 1, 0}, {1, 2, 0}};
        for (int[] order : orders) {
            TreeHasher x = new TreeHasher();
            for (int paths = 1; paths <= 3; paths++) {
                x.file(0, paths, paths);
                due("save(" + order[paths - 1] + ")", x.save(order[paths - 1]), paths);
            }
            for (int paths = 1; paths <= 3; paths++) {
                due("restore(" + order[paths - 1] + ")", x.restore(order[paths - 1]), paths);
                due("the last file", x.content(paths), paths);
                due("no more", x.kind(paths + 1), -1);
            }
        }
    }

    private static void differInJustOne() {
        sentence("Two trees DIFFER at a path if it is there in just one of them");
        for (boolean asFile : KINDS) {
            TreeHasher x = new TreeHasher();
            if (asFile) {
                x.file(0, 0, 0);
            } else {
                x.directory(0, 0);
            }
            due("changed", x.changed(0), 1);
            x.save(0);
            due("differing", x.differing(0, 1), 1);
            due("differing, the other way", x.differing(1, 0), 1);
            due("difference", x.difference(0, 1, 0), 1);
            due("difference, the other way", x.difference(1, 0, 0), 1);
            due("in both", x.changed(0), 0);
            x.remove(1);
            due("in the snapshot alone", x.changed(0), 1);
        }
    }

    private static void differInKind() {
        sentence("or is a directory in one and a file in the other");
        for (int content : CONTENTS) {
            TreeHasher x = new TreeHasher();
            x.directory(0, 4);
            x.save(0);
            x.remove(1);
            x.file(0, 4, content);
            due("a file of " + content + " now", x.changed(0), 1);
            x.save(1);
            due("differing", x.differing(0, 1), 1);
            due("difference", x.difference(1, 0, 0), 5);
            x.restore(0);
            due("a directory now", x.changed(1), 1);
        }
    }

    private static void differInContent() {
        sentence("or is a file in both with different contents");
        for (int first : CONTENTS) {
            for (int second : CONTENTS) {
                int differ = first == second ? 0 : 1;
                TreeHasher x = chain(1, 2);
                x.file(1, 2, first);
                x.save(0);
                x.write(2, second);
                x.save(1);
                // The directory above stands in both and doesn't differ by what is below it.
                due("changed from " + first + " to " + second, x.changed(0), differ);
                due("differing", x.differing(0, 1), differ);
                due("difference", x.difference(0, 1, 0), differ == 1 ? pathOf(2, 2) : -2);
            }
        }
    }
}
