import java.util.ArrayList;
import java.util.List;
import java.util.Map;
import java.util.Random;
import java.util.TreeMap;
import java.util.TreeSet;

/** Long runs of calls, the same each time, against a plain model built another way: of nodes and maps. */
public final class ModelTest extends Checks {
    private static final int RUNS = 600;
    private static final int CALLS = 512;
    // Which refusals the runs have met: a run that never meets one says nothing of it.
    private static final TreeSet<String> met = new TreeSet<>();

    private static final class Node {
        Node parent;
        int name;
        boolean file;
        int content;
        final TreeMap<Integer, Node> children = new TreeMap<>();

        int depth() {
            return parent == null ? 0 : parent.depth() + 1;
        }

        int height() {
            int height = 0;
            for (Node child : children.values()) {
                height = Math.max(height, child.height() + 1);
            }
            return height;
        }

        int path() {
            return parent == null ? 0 : parent.path() * 9 + name + 1;
        }

        boolean isIn(Node top) {
            return this == top || parent != null && parent.isIn(top);
        }

        boolean like(Node other) {
            if (file || other.file) {
                return file && other.file && content == other.content;
            }
            if (!children.keySet().equals(other.children.keySet())) {
                return false;
            }
            for (int key : children.keySet()) {
                if (!children.get(key).like(other.children.get(key))) {
                    return false;
                }
            }
            return true;
        }
    }

    private static final class Model {
        final Node[] nodes = new Node[24];
        // A path's value: "d" for a directory, "f" and the content for a file.
        final List<TreeMap<Integer, String>> snapshots = new ArrayList<>();

        Model() {
            nodes[0] = new Node();
            for (int s = 0; s < 3; s++) {
                snapshots.add(new TreeMap<>());
            }
        }

        Node at(int entry) {
            return entry < 0 || entry > 23 ? null : nodes[entry];
        }

        int make(int parent, int name, boolean file, int content) {
            Node above = at(parent);
            if (above == null) return -1;
            if (above.file) return -2;
            if (name < 0 || name > 7) return -3;
            if (above.children.containsKey(name)) return -4;
            if (above.depth() == 5) return -5;
            for (int entry = 0; entry < 24; entry++) {
                if (nodes[entry] == null) {
                    Node node = new Node();
                    node.parent = above;
                    node.name = name;
                    node.file = file;
                    node.content = content;
                    above.children.put(name, node);
                    nodes[entry] = node;
                    return entry;
                }
            }
            return -6;
        }

        int write(int entry, int content) {
            if (at(entry) == null) return -1;
            if (!at(entry).file) return -2;
            at(entry).content = content;
            return 0;
        }

        int remove(int entry) {
            Node node = at(entry);
            if (node == null) return -1;
            if (entry == 0) return -2;
            int count = 0;
            for (int other = 0; other < 24; other++) {
                if (nodes[other] != null && nodes[other].isIn(node)) {
                    nodes[other] = null;
                    count++;
                }
            }
            node.parent.children.remove(node.name);
            return count;
        }

        int move(int entry, int parent, int name) {
            Node node = at(entry);
            Node above = at(parent);
            if (node == null || entry == 0) return -1;
            if (above == null || above.file) return -2;
            if (name < 0 || name > 7) return -3;
            if (above.isIn(node)) return -4;
            if (above.children.containsKey(name) && above.children.get(name) != node) return -5;
            if (above.depth() + 1 + node.height() > 5) return -6;
            node.parent.children.remove(node.name);
            node.parent = above;
            node.name = name;
            above.children.put(name, node);
            return 0;
        }

        int lookup(int path) {
            for (int entry = 0; entry < 24; entry++) {
                if (nodes[entry] != null && nodes[entry].path() == path) return entry;
            }
            return -1;
        }

        int entries() {
            return 1 + tree().size();
        }

        TreeMap<Integer, String> tree() {
            TreeMap<Integer, String> tree = new TreeMap<>();
            for (int entry = 1; entry < 24; entry++) {
                Node node = nodes[entry];
                if (node != null) tree.put(node.path(), node.file ? "f" + node.content : "d");
            }
            return tree;
        }

        TreeMap<Integer, String> snapshot(int s) {
            return s < 0 || s > 2 ? null : snapshots.get(s);
        }

        int save(int s) {
            if (snapshot(s) == null) return -1;
            snapshots.set(s, tree());
            return snapshot(s).size();
        }

        int restore(int s) {
            if (snapshot(s) == null) return -1;
            for (int entry = 1; entry < 24; entry++) {
                nodes[entry] = null;
            }
            nodes[0].children.clear();
            for (int depth = 1; depth <= 5; depth++) {
                for (Map.Entry<Integer, String> row : snapshot(s).entrySet()) {
                    int path = row.getKey();
                    if (Integer.toString(path, 9).length() != depth) continue;
                    boolean file = !row.getValue().equals("d");
                    int content = file ? Integer.parseInt(row.getValue().substring(1)) : 0;
                    make(lookup(path / 9), path % 9 - 1, file, content);
                }
            }
            return snapshot(s).size();
        }

        static List<Integer> between(TreeMap<Integer, String> a, TreeMap<Integer, String> b) {
            TreeSet<Integer> paths = new TreeSet<>(a.keySet());
            paths.addAll(b.keySet());
            paths.removeIf(path -> a.containsKey(path) && a.get(path).equals(b.get(path)));
            return new ArrayList<>(paths);
        }

        int differing(int a, int b) {
            return snapshot(a) == null || snapshot(b) == null ? -1 : between(snapshot(a), snapshot(b)).size();
        }

        int difference(int a, int b, int i) {
            if (snapshot(a) == null || snapshot(b) == null) return -1;
            List<Integer> paths = between(snapshot(a), snapshot(b));
            return i < 0 || i >= paths.size() ? -2 : paths.get(i);
        }

        int changed(int s) {
            return snapshot(s) == null ? -1 : between(snapshot(s), tree()).size();
        }

        int alike(int x, int y) {
            if (at(x) == null || at(y) == null) return -1;
            return at(x).like(at(y)) ? 1 : 0;
        }

        int twins(int entry) {
            if (at(entry) == null) return -1;
            int count = 0;
            for (Node node : nodes) {
                if (node != null && node.like(at(entry))) count++;
            }
            return count;
        }

        int repeated(int s) {
            if (snapshot(s) == null) return 0;
            TreeMap<Integer, Integer> counts = new TreeMap<>();
            for (String value : snapshot(s).values()) {
                if (!value.equals("d")) counts.merge(Integer.parseInt(value.substring(1)), 1, Integer::sum);
            }
            counts.values().removeIf(count -> count < 2);
            return counts.isEmpty() ? 0 : counts.firstKey();
        }
    }

    private static void compare(String call, long got, long want) {
        met.add(call.substring(0, call.indexOf('(')) + (want < 0 && want >= -6 ? " " + want : " done"));
        due(call, got, want);
    }

    private final Random random;
    private final TreeHasher x = new TreeHasher();
    private final Model model = new Model();
    private final String run;
    private final int nameLimit;
    private final int removals;

    private ModelTest(int number) {
        random = new Random(number);
        run = " in run " + number;
        // Few names make deep trees and taken names; few removals make full trees.
        nameLimit = 1 + number % 8;
        removals = number / 8 % 4;
    }

    private int anEntry() {
        if (random.nextInt(12) == 0) return random.nextInt(30) - 3;
        int entry = random.nextInt(24);
        for (int i = 0; i < 24 && model.nodes[entry] == null; i++) {
            entry = (entry + 1) % 24;
        }
        return entry;
    }

    private int aParent() {
        int entry = anEntry();
        // A second try, as a file is refused as a parent.
        return model.at(entry) != null && model.at(entry).file ? anEntry() : entry;
    }

    private int aName() {
        return random.nextInt(20) == 0 ? random.nextInt(12) - 2 : random.nextInt(nameLimit);
    }

    private int aContent() {
        int[] contents = {0, 1, -1, 2, LEAST, MOST};
        return contents[random.nextInt(contents.length)];
    }

    private int aSnapshot() {
        return random.nextInt(15) == 0 ? random.nextInt(7) - 2 : random.nextInt(3);
    }

    private int aPath() {
        int entry = anEntry();
        boolean known = model.at(entry) != null && random.nextInt(3) > 0;
        return known ? model.at(entry).path() : random.nextInt(60000) - 100;
    }

    private void change() {
        int e = anEntry();
        int p = aParent();
        int n = aName();
        int c = aContent();
        int s = aSnapshot();
        int which = random.nextInt(24 + removals);
        if (which < 8) {
            compare("directory(" + p + ", " + n + ")" + run, x.directory(p, n), model.make(p, n, false, 0));
        } else if (which < 14) {
            compare("file(" + p + ", " + n + ", " + c + ")" + run, x.file(p, n, c), model.make(p, n, true, c));
        } else if (which < 16) {
            compare("write(" + e + ", " + c + ")" + run, x.write(e, c), model.write(e, c));
        } else if (which < 21) {
            compare("move(" + e + ", " + p + ", " + n + ")" + run, x.move(e, p, n), model.move(e, p, n));
        } else if (which < 23) {
            compare("save(" + s + ")" + run, x.save(s), model.save(s));
        } else if (which < 24) {
            compare("restore(" + s + ")" + run, x.restore(s), model.restore(s));
        } else {
            compare("remove(" + e + ")" + run, x.remove(e), model.remove(e));
        }
    }

    private void ask() {
        int e = anEntry();
        int f = anEntry();
        int a = aSnapshot();
        int b = aSnapshot();
        int i = random.nextInt(28) - 2;
        int p = aPath();
        switch (random.nextInt(7)) {
            case 0: compare("lookup(" + p + ")" + run, x.lookup(p), model.lookup(p)); break;
            case 1: compare("differing(" + a + ", " + b + ")" + run, x.differing(a, b), model.differing(a, b)); break;
            case 2:
                compare("difference(" + a + ", " + b + ", " + i + ")" + run, x.difference(a, b, i),
                    model.difference(a, b, i));
                break;
            case 3: compare("changed(" + a + ")" + run, x.changed(a), model.changed(a)); break;
            case 4: compare("alike(" + e + ", " + f + ")" + run, x.alike(e, f), model.alike(e, f)); break;
            case 5: compare("twins(" + e + ")" + run, x.twins(e), model.twins(e)); break;
            default: compare("repeated(" + a + ")" + run, x.repeated(a), model.repeated(a));
        }
    }

    private void look() {
        int e = random.nextInt(26) - 1;
        Node node = model.at(e);
        switch (random.nextInt(4)) {
            case 0: compare("entries()" + run, x.entries(), model.entries()); break;
            case 1: compare("kind(" + e + ")" + run, x.kind(e), node == null ? -1 : node.file ? 1 : 0); break;
            case 2: compare("content(" + e + ")" + run, x.content(e), node == null ? 0 : node.content); break;
            default: compare("path(" + e + ")" + run, x.path(e), node == null ? -1 : node.path());
        }
    }

    private void go() {
        for (int call = 0; call + 3 <= CALLS; call += 3) {
            change();
            ask();
            look();
        }
    }

    private static void metAll(String method, int refusals) {
        for (int refusal = 1; refusal <= refusals; refusal++) {
            if (!met.contains(method + " -" + refusal)) fail("no run met " + method + " answering -" + refusal);
        }
        if (!met.contains(method + " done")) fail("no run met " + method + " being done");
    }

    public static void main(String[] args) {
        for (int number = 0; number < RUNS; number++) {
            new ModelTest(number).go();
        }
        metAll("directory", 6);
        metAll("file", 6);
        metAll("write", 2);
        metAll("remove", 2);
        metAll("move", 6);
        metAll("kind", 1);
        metAll("path", 1);
        metAll("lookup", 1);
        metAll("save", 1);
        metAll("restore", 1);
        metAll("differing", 1);
        metAll("difference", 2);
        metAll("changed", 1);
        metAll("alike", 1);
        metAll("twins", 1);
        end();
    }
}
