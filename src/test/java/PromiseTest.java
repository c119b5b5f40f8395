import java.lang.reflect.Constructor;
import java.lang.reflect.Field;
import java.lang.reflect.Method;
import java.lang.reflect.Modifier;
import java.util.TreeSet;

/** For each promise its ordinary answers, with some edges and wrong inputs; and the public face of the class. */
public final class PromiseTest extends Checks {
    private static final int[] BAD_ENTRIES = {-1, 24, 25, 23, LEAST, MOST};

    public static void main(String[] args) {
        face();
        newObject();
        directory();
        directoryRefusals();
        file();
        fullTree();
        write();
        remove();
        move();
        moveRefusals();
        kindAndContent();
        path();
        lookup();
        save();
        restore();
        differing();
        changed();
        alike();
        twins();
        repeated();
        questionsChangeNothing();
        objectsAreApart();
        end();
    }

    private static void face() {
        String[] names = {"directory/2", "file/3", "write/2", "remove/1", "move/3", "kind/1", "content/1", "path/1",
            "lookup/1", "entries/0", "save/1", "restore/1", "differing/2", "difference/3", "changed/1", "alike/2",
            "twins/1", "repeated/1"};
        TreeSet<String> want = new TreeSet<>(java.util.Arrays.asList(names));
        TreeSet<String> got = new TreeSet<>();
        for (Method method : TreeHasher.class.getDeclaredMethods()) {
            if (!Modifier.isPrivate(method.getModifiers())) {
                got.add(method.getName() + "/" + method.getParameterCount());
                due("face: type of " + method.getName(), method.getReturnType() == int.class ? 1 : 0, 1);
            }
        }
        due("face: the methods " + got, got.equals(want) ? 1 : 0, 1);
        Constructor<?>[] makers = TreeHasher.class.getDeclaredConstructors();
        due("face: constructors", makers.length, 1);
        due("face: constructor's parameters", makers[0].getParameterCount(), 0);
        for (Field field : TreeHasher.class.getDeclaredFields()) {
            due("face: private " + field.getName(), Modifier.isPrivate(field.getModifiers()) ? 1 : 0, 1);
        }
    }

    private static void newObject() {
        TreeHasher x = new TreeHasher();
        due("1: entries", x.entries(), 1);
        due("1: kind of root", x.kind(0), 0);
        due("1: path of root", x.path(0), 0);
        for (int entry = 1; entry < 24; entry++) {
            due("1: kind of " + entry, x.kind(entry), -1);
        }
        for (int s = 0; s < 3; s++) {
            due("1: changed", x.changed(s), 0);
            due("1: differing", x.differing(s, (s + 1) % 3), 0);
            due("1: repeated", x.repeated(s), 0);
            due("1: restore", x.restore(s), 0);
        }
        due("1: entries after restore", x.entries(), 1);
    }

    private static void directory() {
        TreeHasher x = new TreeHasher();
        due("2: first", x.directory(0, 0), 1);
        due("2: last name", x.directory(0, 7), 2);
        due("2: nested, name used elsewhere", x.directory(1, 0), 3);
        due("2: path", x.path(3), 10);
        due("2: kind", x.kind(3), 0);
        due("2: content", x.content(3), 0);
        due("2: remove", x.remove(2), 1);
        due("2: least free number", x.directory(1, 5), 2);
        due("2: then the next", x.directory(1, 6), 4);
        due("2: entries", x.entries(), 5);
        TreeHasher deep = chain(4, 7);
        due("2: depth 5", deep.directory(4, 7), 5);
        due("2: path at depth 5", deep.path(5), 59048);
        TreeHasher reused = new TreeHasher();
        due("2: file to be replaced", reused.file(0, 0, 44), 1);
        due("2: removed", reused.remove(1), 1);
        due("2: in its place", reused.directory(0, 0), 1);
        due("2: nothing left of its content", reused.content(1), 0);
        due("2: nor of its kind", reused.kind(1), 0);
    }

    private static void directoryRefusals() {
        TreeHasher x = chain(5, 2);
        due("2: a file", x.file(0, 3, 9), 6);
        for (int bad : BAD_ENTRIES) {
            due("2: parent " + bad, x.directory(bad, 0), -1);
            due("2: -1 before -3", x.directory(bad, 8), -1);
            due("3: parent " + bad, x.file(bad, 0, 1), -1);
        }
        for (int bad : NOT_NAMES) {
            due("2: name " + bad, x.directory(0, bad), -3);
            due("3: name " + bad, x.file(0, bad, 1), -3);
            due("2: -2 before -3", x.directory(6, bad), -2);
            due("2: -3 before -5", x.directory(5, bad), -3);
        }
        due("2: below a file", x.directory(6, 0), -2);
        due("3: below a file", x.file(6, 0, 1), -2);
        due("2: name of a directory", x.directory(0, 2), -4);
        due("2: name of a file", x.directory(0, 3), -4);
        due("3: name of a directory", x.file(0, 2, 1), -4);
        due("3: name of a file", x.file(0, 3, 1), -4);
        due("2: too deep", x.directory(5, 0), -5);
        due("3: too deep", x.file(5, 0, 1), -5);
        due("2: refusals change nothing", x.entries(), 7);
        due("3: refusals change nothing", x.content(6), 9);
    }

    private static void file() {
        TreeHasher x = new TreeHasher();
        due("3: least int", x.file(0, 0, LEAST), 1);
        due("3: greatest int", x.file(0, 1, MOST), 2);
        due("3: content", x.content(1), LEAST);
        due("3: content", x.content(2), MOST);
        due("3: kind", x.kind(2), 1);
        due("3: path", x.path(2), 2);
        due("3: remove", x.remove(1), 1);
        due("3: least free number", x.file(0, 5, 0), 1);
        TreeHasher deep = chain(4, 0);
        due("3: depth 5", deep.file(4, 0, 3), 5);
        due("3: path at depth 5", deep.path(5), 7381);
    }

    private static void fullTree() {
        TreeHasher x = full();
        due("2: 24 entries", x.entries(), 24);
        due("2: full", x.directory(0, 7), -6);
        due("3: full", x.file(0, 7, 1), -6);
        due("2: -4 before -6", x.directory(0, 0), -4);
        due("2: -3 before -6", x.directory(0, 8), -3);
        due("2: -2 before -6", x.directory(23, 0), -2);
        due("2: -1 before -6", x.directory(24, 0), -1);
        due("7: last entry", x.kind(23), 1);
        due("12: save 23 paths", x.save(2), 23);
        due("5: one away", x.remove(7), 1);
        due("2: room again", x.directory(0, 7), 7);
        due("2: full again", x.directory(0, 6), -6);
        due("13: restore 23 paths", x.restore(2), 23);
        due("16: as saved", x.changed(2), 0);
        due("14: all paths", x.differing(2, 0), 23);
        due("15: last path", x.difference(2, 0, 22), 31);
        due("15: one too far", x.difference(2, 0, 23), -2);
        TreeHasher deep = chain(5, 0);
        for (int entry = 6; entry < 24; entry++) {
            due("2: fill", deep.directory((entry - 6) / 7, 1 + (entry - 6) % 7), entry);
        }
        due("2: -5 before -6", deep.directory(5, 0), -5);
        due("2: -6", deep.directory(4, 7), -6);
    }

    private static void write() {
        TreeHasher x = new TreeHasher();
        x.file(0, 0, 1);
        x.directory(0, 1);
        x.file(0, 2, 5);
        due("4: write", x.write(1, -7), 0);
        due("4: content", x.content(1), -7);
        due("4: no other file", x.content(3), 5);
        due("4: the same again", x.write(1, -7), 0);
        due("4: least int", x.write(1, LEAST), 0);
        due("4: content", x.content(1), LEAST);
        due("4: directory", x.write(2, 4), -2);
        due("4: directory keeps none", x.content(2), 0);
        due("4: root", x.write(0, 4), -2);
        for (int bad : BAD_ENTRIES) {
            due("4: entry " + bad, x.write(bad, 4), -1);
        }
        x.remove(1);
        due("4: removed", x.write(1, 4), -1);
    }

    private static void remove() {
        TreeHasher x = chain(4, 1);
        x.file(2, 5, 1);
        x.file(0, 5, 1);
        due("5: with all below", x.remove(2), 4);
        due("5: entries", x.entries(), 3);
        due("5: it is gone", x.kind(2), -1);
        due("5: below is gone", x.kind(4), -1);
        due("5: file below is gone", x.kind(5), -1);
        due("5: parent stays", x.kind(1), 0);
        due("5: neighbour stays", x.kind(6), 1);
        due("5: again", x.remove(2), -1);
        due("5: root", x.remove(0), -2);
        for (int bad : BAD_ENTRIES) {
            due("5: entry " + bad, x.remove(bad), -1);
        }
        due("5: empty directory", x.remove(1), 1);
        due("5: file", x.remove(6), 1);
        due("5: all gone", x.entries(), 1);

        // The child has a lesser number than its parent here.
        TreeHasher y = new TreeHasher();
        y.file(0, 0, 1);
        y.directory(0, 1);
        y.directory(0, 2);
        due("5: move", y.move(2, 3, 0), 0);
        due("5: move", y.move(1, 2, 0), 0);
        due("5: lesser numbers below", y.remove(3), 3);
        due("5: only the root", y.entries(), 1);
    }

    private static void move() {
        TreeHasher x = chain(3, 0);
        x.directory(0, 4);
        x.file(3, 6, 70);
        due("6: with all below", x.move(2, 4, 7), 0);
        due("6: path", x.path(2), 5 * 9 + 8);
        due("6: path below", x.path(5), ((5 * 9 + 8) * 9 + 1) * 9 + 7);
        due("6: content stays", x.content(5), 70);
        due("6: old path is gone", x.lookup(10), -1);
        due("6: entries", x.entries(), 6);
        due("6: nothing changes", x.move(2, 4, 7), 0);
        due("6: path the same", x.path(2), 53);
        due("6: name alone", x.move(2, 4, 0), 0);
        due("6: path", x.path(2), 46);
        due("6: to the root", x.move(5, 0, 7), 0);
        due("6: path", x.path(5), 8);
        due("6: name is free again", x.file(3, 6, 1), 6);
    }

    private static void moveRefusals() {
        TreeHasher x = chain(3, 0);
        due("6: other", x.directory(0, 1), 4);
        due("6: other", x.directory(4, 1), 5);
        due("6: file", x.file(5, 1, 8), 6);
        due("6: root", x.move(0, 1, 5), -1);
        due("6: root before parent", x.move(0, 24, 9), -1);
        for (int bad : BAD_ENTRIES) {
            due("6: entry " + bad, x.move(bad, 0, 5), -1);
            due("6: parent " + bad, x.move(1, bad, 5), -2);
            due("6: -2 before -3", x.move(1, bad, 8), -2);
        }
        due("6: parent a file", x.move(1, 6, 5), -2);
        due("6: -2 before -4", x.move(6, 6, 5), -2);
        for (int bad : NOT_NAMES) {
            due("6: name " + bad, x.move(1, 0, bad), -3);
            due("6: -3 before -4", x.move(1, 1, bad), -3);
        }
        due("6: into itself", x.move(1, 1, 5), -4);
        due("6: below itself", x.move(1, 2, 5), -4);
        due("6: far below itself", x.move(1, 3, 5), -4);
        due("6: -4 before -5", x.move(1, 1, 0), -4);
        due("6: name taken", x.move(1, 0, 1), -5);
        due("6: name taken by a file", x.move(1, 5, 1), -5);
        due("6: -5 before -6", x.move(4, 2, 0), -5);
        due("6: too deep", x.move(4, 3, 5), -6);
        due("6: just not too deep", x.move(1, 5, 5), 0);
        due("6: at depth 5 now", x.path(3), ((((2 * 9 + 2) * 9 + 6) * 9) + 1) * 9 + 1);
        due("6: one level more", x.directory(4, 2), 7);
        due("6: one level more", x.directory(7, 2), 8);
        due("6: would be 6 deep", x.move(1, 8, 5), -6);
        due("6: refusal changes nothing", x.path(1), (2 * 9 + 2) * 9 + 6);
        due("6: a file one too deep", x.move(6, 3, 0), -6);
        due("6: a file at depth 5", x.move(6, 2, 7), 0);
        due("6: its path", x.path(6), ((((2 * 9 + 2) * 9 + 6) * 9) + 1) * 9 + 8);
        due("6: entries", x.entries(), 9);
        TreeHasher y = chain(4, 0);
        due("6: other", y.directory(0, 1), 5);
        due("6: other", y.directory(5, 1), 6);
        due("6: too deep", y.move(1, 6, 0), -6);
        due("6: less deep", y.remove(4), 1);
        due("6: what was removed has no depth", y.move(1, 6, 0), 0);
    }

    private static void kindAndContent() {
        TreeHasher x = new TreeHasher();
        x.directory(0, 0);
        x.file(1, 0, -3);
        due("7: directory", x.kind(1), 0);
        due("7: file", x.kind(2), 1);
        due("7: root", x.kind(0), 0);
        due("8: file", x.content(2), -3);
        due("8: directory", x.content(1), 0);
        due("8: root", x.content(0), 0);
        for (int bad : BAD_ENTRIES) {
            due("7: entry " + bad, x.kind(bad), -1);
            due("8: entry " + bad, x.content(bad), 0);
        }
        x.remove(2);
        due("7: removed", x.kind(2), -1);
        due("8: removed", x.content(2), 0);
    }

    private static void path() {
        TreeHasher x = chain(1, 0);
        x.directory(1, 1);
        x.directory(2, 2);
        x.directory(3, 3);
        x.file(4, 4, 0);
        int[] paths = {0, 1, 11, 102, 922, 8303};
        for (int entry = 0; entry < 6; entry++) {
            due("9: path of " + entry, x.path(entry), paths[entry]);
            due("10: lookup of " + paths[entry], x.lookup(paths[entry]), entry);
        }
        for (int bad : BAD_ENTRIES) {
            due("9: entry " + bad, x.path(bad), -1);
        }
        x.remove(5);
        due("9: removed", x.path(5), -1);
        due("10: removed", x.lookup(8303), -1);
    }

    private static void lookup() {
        TreeHasher x = chain(5, 7);
        due("10: root", x.lookup(0), 0);
        due("10: deepest", x.lookup(59048), 5);
        due("10: one deeper", x.lookup(59048 * 9 + 8), -1);
        due("10: 9^5", x.lookup(59049), -1);
        due("10: a digit 0", x.lookup(8 * 9), -1);
        due("10: a digit 0 inside", x.lookup(8 * 81 + 8), -1);
        due("10: 9^5 above a path", x.lookup(59049 + 8), -1);
        due("10: negative", x.lookup(-1), -1);
        due("10: negative of a path", x.lookup(-8), -1);
        due("10: least int", x.lookup(LEAST), -1);
        due("10: greatest int", x.lookup(MOST), -1);
        due("10: no such path", x.lookup(7), -1);
    }

    private static void save() {
        TreeHasher x = new TreeHasher();
        x.directory(0, 3);
        x.file(1, 3, 12);
        due("12: save", x.save(0), 2);
        due("12: the tree stays", x.entries(), 3);
        x.remove(1);
        due("12: the snapshot stays", x.changed(0), 2);
        due("12: save the empty tree", x.save(1), 0);
        due("12: save over", x.save(0), 0);
        due("12: now empty", x.changed(0), 0);
        x.file(0, 0, 1);
        for (int bad : NOT_SNAPSHOTS) {
            due("12: snapshot " + bad, x.save(bad), -1);
        }
        for (int s = 0; s < 3; s++) {
            due("12: refusal changes nothing", x.changed(s), 1);
        }
        due("12: save 2", x.save(2), 1);
        due("12: no other snapshot", x.differing(0, 1), 0);
        due("12: this one", x.differing(0, 2), 1);
    }

    private static void restore() {
        TreeHasher x = new TreeHasher();
        x.directory(0, 7);
        x.file(1, 7, 77);
        x.directory(1, 0);
        x.file(3, 0, 100);
        x.file(0, 2, 22);
        x.directory(0, 0);
        x.file(6, 5, 5);
        due("13: save", x.save(0), 7);
        x.remove(3);
        x.write(5, 23);
        x.file(0, 4, 1);
        due("13: restore", x.restore(0), 7);
        int[] paths = {0, 1, 3, 8, 15, 73, 80, 658};
        int[] kinds = {0, 0, 1, 0, 1, 0, 1, 1};
        int[] contents = {0, 0, 22, 0, 5, 0, 77, 100};
        for (int entry = 0; entry < 8; entry++) {
            due("13: path of " + entry, x.path(entry), paths[entry]);
            due("13: kind of " + entry, x.kind(entry), kinds[entry]);
            due("13: content of " + entry, x.content(entry), contents[entry]);
        }
        due("13: entries", x.entries(), 8);
        due("13: no changes", x.changed(0), 0);
        due("13: the next number", x.file(0, 4, 1), 8);
        due("13: the snapshot stays", x.changed(0), 1);
        for (int bad : NOT_SNAPSHOTS) {
            due("13: snapshot " + bad, x.restore(bad), -1);
        }
        due("13: refusal changes nothing", x.entries(), 9);
        due("13: restore the empty one", x.restore(1), 0);
        due("13: only the root", x.entries(), 1);
        due("13: restore again", x.restore(0), 7);
        due("13: works as a tree", x.remove(3), 4);
    }

    private static void differing() {
        TreeHasher x = new TreeHasher();
        x.directory(0, 0);
        x.file(1, 1, 5);
        x.file(0, 3, 6);
        x.directory(0, 5);
        x.file(0, 6, 0);
        x.save(0);
        x.write(2, 50);
        x.remove(3);
        x.remove(4);
        x.file(0, 5, 0);
        x.file(0, 7, 1);
        x.directory(1, 7);
        x.save(1);
        // Content at 11, only the first at 4, kind at 6 (the content being 0), only the second at 8 and 17.
        int[] paths = {4, 6, 8, 11, 17};
        due("14: differing", x.differing(0, 1), 5);
        due("14: the other way", x.differing(1, 0), 5);
        for (int i = 0; i < 5; i++) {
            due("15: difference " + i, x.difference(0, 1, i), paths[i]);
            due("15: the other way " + i, x.difference(1, 0, i), paths[i]);
        }
        int[] noSuch = {-1, 5, 6, LEAST, MOST};
        for (int i : noSuch) {
            due("15: i = " + i, x.difference(0, 1, i), -2);
        }
        due("14: with itself", x.differing(1, 1), 0);
        due("15: with itself", x.difference(1, 1, 0), -2);
        due("14: with the empty one", x.differing(2, 0), 5);
        for (int bad : NOT_SNAPSHOTS) {
            due("14: a = " + bad, x.differing(bad, 0), -1);
            due("14: b = " + bad, x.differing(0, bad), -1);
            due("15: a = " + bad, x.difference(bad, 0, 0), -1);
            due("15: b = " + bad, x.difference(0, bad, -1), -1);
        }
    }

    private static void changed() {
        TreeHasher x = new TreeHasher();
        x.directory(0, 0);
        x.file(1, 1, 0);
        x.file(0, 3, 6);
        x.save(1);
        due("16: nothing", x.changed(1), 0);
        due("16: against the empty one", x.changed(0), 3);
        x.write(3, 7);
        due("16: content", x.changed(1), 1);
        x.write(3, 6);
        due("16: content as it was", x.changed(1), 0);
        x.remove(2);
        due("16: a path less", x.changed(1), 1);
        x.directory(1, 1);
        due("16: kind", x.changed(1), 1);
        x.file(1, 2, 0);
        due("16: a path more", x.changed(1), 2);
        x.move(1, 0, 7);
        due("16: moved", x.changed(1), 5);
        for (int bad : NOT_SNAPSHOTS) {
            due("16: snapshot " + bad, x.changed(bad), -1);
        }
        // Other numbers for the same paths are no change.
        TreeHasher y = new TreeHasher();
        y.file(0, 0, 1);
        y.file(0, 1, 2);
        y.save(0);
        y.move(1, 0, 2);
        y.move(2, 0, 0);
        y.move(1, 0, 1);
        due("16: contents swapped", y.changed(0), 2);
        y.write(1, 2);
        y.write(2, 1);
        due("16: numbers swapped", y.changed(0), 0);
    }

    private static void alike() {
        TreeHasher x = new TreeHasher();
        x.directory(0, 0);
        x.directory(0, 1);
        due("17: empty directories", x.alike(1, 2), 1);
        x.file(1, 3, 0);
        due("17: a name less", x.alike(1, 2), 0);
        due("17: a name more", x.alike(2, 1), 0);
        x.directory(2, 3);
        due("17: kinds below", x.alike(1, 2), 0);
        due("17: file of content 0 and directory", x.alike(3, 4), 0);
        x.remove(4);
        x.file(2, 4, 0);
        due("17: other names below", x.alike(1, 2), 0);
        due("17: files", x.alike(3, 4), 1);
        x.move(4, 2, 3);
        due("17: the same names", x.alike(1, 2), 1);
        x.write(4, 1);
        due("17: other contents", x.alike(3, 4), 0);
        due("17: other contents below", x.alike(1, 2), 0);
        due("17: itself", x.alike(1, 1), 1);
        due("17: root and itself", x.alike(0, 0), 1);
        due("17: root and its child", x.alike(0, 1), 0);
        for (int bad : BAD_ENTRIES) {
            due("17: x = " + bad, x.alike(bad, 0), -1);
            due("17: y = " + bad, x.alike(0, bad), -1);
        }
        TreeHasher deep = chain(4, 0);
        deep.file(4, 2, 9);
        deep.directory(0, 1);
        deep.directory(6, 0);
        deep.directory(7, 0);
        deep.directory(8, 0);
        deep.file(9, 2, 8);
        due("17: far below, other content", deep.alike(1, 6), 0);
        deep.write(10, 9);
        due("17: far below, the same", deep.alike(1, 6), 1);
        due("17: a directory and one below it", deep.alike(1, 2), 0);
        due("17: one below the other's", deep.alike(2, 7), 1);
        deep.move(10, 9, 3);
        due("17: far below, other name", deep.alike(1, 6), 0);
    }

    private static void twins() {
        TreeHasher x = new TreeHasher();
        due("18: root alone", x.twins(0), 1);
        x.directory(0, 0);
        x.directory(0, 1);
        x.directory(1, 1);
        due("18: empty directories", x.twins(2), 2);
        due("18: one of its own", x.twins(1), 1);
        x.file(0, 5, 3);
        x.file(1, 5, 3);
        x.file(0, 6, 4);
        due("18: files", x.twins(4), 2);
        due("18: another content", x.twins(6), 1);
        x.write(6, 3);
        due("18: files again", x.twins(6), 3);
        due("18: root", x.twins(0), 1);
        x.remove(5);
        due("18: removed ones don't count", x.twins(6), 2);
        for (int bad : BAD_ENTRIES) {
            due("18: entry " + bad, x.twins(bad), -1);
        }
        due("18: removed", x.twins(5), -1);
    }

    private static void repeated() {
        TreeHasher x = new TreeHasher();
        x.directory(0, 0);
        x.directory(0, 1);
        x.file(0, 2, 7);
        x.file(1, 2, -5);
        x.file(2, 2, -9);
        due("19: save", x.save(0), 5);
        due("19: none", x.repeated(0), 0);
        x.file(2, 3, 7);
        due("19: not saved yet", x.repeated(0), 0);
        x.save(0);
        due("19: once more", x.repeated(0), 7);
        x.file(2, 4, -5);
        x.save(1);
        due("19: the least", x.repeated(1), -5);
        due("19: another snapshot", x.repeated(0), 7);
        x.file(2, 5, LEAST);
        x.file(1, 5, LEAST);
        x.save(2);
        due("19: least int", x.repeated(2), LEAST);
        x.restore(1);
        due("19: restored", x.repeated(2), LEAST);
        for (int bad : NOT_SNAPSHOTS) {
            due("19: snapshot " + bad, x.repeated(bad), 0);
        }
        // Directories have no content, not even 0.
        TreeHasher y = new TreeHasher();
        y.directory(0, 0);
        y.directory(0, 1);
        y.file(0, 2, 0);
        y.file(0, 3, 3);
        y.file(0, 4, 3);
        y.save(0);
        due("19: 0 stands once", y.repeated(0), 3);
        y.file(0, 5, 0);
        y.save(0);
        due("19: 0 stands twice", y.repeated(0), 0);
        TreeHasher z = new TreeHasher();
        z.file(0, 0, 6);
        z.file(0, 1, 6);
        z.file(0, 2, -6);
        z.file(0, 3, -6);
        z.save(0);
        due("19: two pairs", z.repeated(0), -6);
        z.remove(4);
        z.save(0);
        due("19: the first paths", z.repeated(0), 6);
        z.remove(2);
        z.save(0);
        due("19: nothing left of an earlier save", z.repeated(0), 0);
    }

    private static void questionsChangeNothing() {
        TreeHasher x = full();
        x.save(0);
        x.write(23, 4);
        for (int round = 0; round < 2; round++) {
            due("questions: changed", x.changed(0), 1);
            due("questions: changed", x.changed(1), 23);
            due("questions: twins", x.twins(4), 2);
            due("questions: alike", x.alike(1, 2), 0);
            due("questions: differing", x.differing(0, 2), 23);
            due("questions: difference", x.difference(0, 1, 2), 3);
            due("questions: repeated", x.repeated(0), 0);
            due("questions: lookup", x.lookup(10), 4);
            due("questions: entries", x.entries(), 24);
        }
    }

    private static void objectsAreApart() {
        TreeHasher x = new TreeHasher();
        TreeHasher y = new TreeHasher();
        x.file(0, 0, 1);
        x.save(0);
        due("1: another object's tree", y.entries(), 1);
        due("1: another object's snapshot", y.restore(0), 0);
    }
}
