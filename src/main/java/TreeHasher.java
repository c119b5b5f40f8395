/** A small tree of directories and files with snapshots and their differences. */
public final class TreeHasher {
    private static final int ENTRIES = 24;
    private static final int ROOT = 0;
    private static final int NAMES = 8;
    private static final int MAX_DEPTH = 5;
    private static final int BASE = 9;
    private static final int SNAPSHOTS = 3;
    // The root is in every tree, so a snapshot keeps no row for it.
    private static final int ROWS = ENTRIES - 1;
    private static final int CELLS = SNAPSHOTS * ROWS;
    private static final int NONE = -1;

    private final boolean[] exists = new boolean[ENTRIES];
    private final boolean[] isFile = new boolean[ENTRIES];
    private final int[] parents = new int[ENTRIES];
    private final int[] names = new int[ENTRIES];
    // A directory's content is kept at 0, so that comparing kind and content
    // is enough for both kinds.
    private final int[] contents = new int[ENTRIES];

    // Snapshot s has its rows in the cells from s * ROWS on, by rising path
    // number: a parent's path is shorter, so it always comes before its children.
    private final int[] rowCounts = new int[SNAPSHOTS];
    private final int[] rowPaths = new int[CELLS];
    private final boolean[] rowIsFile = new boolean[CELLS];
    private final int[] rowContents = new int[CELLS];

    public TreeHasher() {
        exists[ROOT] = true;
    }

    public int directory(int parent, int name) {
        return make(parent, name, false, 0);
    }

    public int file(int parent, int name, int content) {
        return make(parent, name, true, content);
    }

    public int write(int entry, int content) {
        if (!isGoodEntry(entry)) {
            return -1;
        }
        if (!isFile[entry]) {
            return -2;
        }
        contents[entry] = content;
        return 0;
    }

    public int remove(int entry) {
        if (!isGoodEntry(entry)) {
            return -1;
        }
        if (entry == ROOT) {
            return -2;
        }
        int taken = 0;
        for (int other = 1; other < ENTRIES; other++) {
            // The parents of entries already taken away still stand in the
            // arrays, so what is left below them is found all the same.
            if (exists[other] && pathBelow(entry, other) != NONE) {
                exists[other] = false;
                taken++;
            }
        }
        return taken;
    }

    public int move(int entry, int parent, int name) {
        if (!isGoodEntry(entry) || entry == ROOT) {
            return -1;
        }
        if (!isGoodEntry(parent) || isFile[parent]) {
            return -2;
        }
        if (!isGoodName(name)) {
            return -3;
        }
        if (pathBelow(entry, parent) != NONE) {
            return -4;
        }
        int holder = childNamed(parent, name);
        if (holder != NONE && holder != entry) {
            return -5;
        }
        if (depthOf(parent) + 1 + heightOf(entry) > MAX_DEPTH) {
            return -6;
        }
        parents[entry] = parent;
        names[entry] = name;
        return 0;
    }

    public int kind(int entry) {
        if (!isGoodEntry(entry)) {
            return -1;
        }
        return isFile[entry] ? 1 : 0;
    }

    public int content(int entry) {
        return isGoodEntry(entry) ? contents[entry] : 0;
    }

    public int path(int entry) {
        return isGoodEntry(entry) ? pathBelow(ROOT, entry) : -1;
    }

    public int lookup(int path) {
        return entryBelow(ROOT, path);
    }

    public int entries() {
        int count = 0;
        for (int entry = 0; entry < ENTRIES; entry++) {
            if (exists[entry]) {
                count++;
            }
        }
        return count;
    }

    public int save(int snapshot) {
        if (!isGoodSnapshot(snapshot)) {
            return -1;
        }
        int count = 0;
        int lastPath = 0;
        for (int row = 0; row < ROWS; row++) {
            int entry = entryAfter(lastPath);
            if (entry == NONE) {
                break;
            }
            lastPath = pathBelow(ROOT, entry);
            int cell = snapshot * ROWS + row;
            rowPaths[cell] = lastPath;
            rowIsFile[cell] = isFile[entry];
            rowContents[cell] = contents[entry];
            count++;
        }
        rowCounts[snapshot] = count;
        return count;
    }

    public int restore(int snapshot) {
        if (!isGoodSnapshot(snapshot)) {
            return -1;
        }
        for (int entry = 1; entry < ENTRIES; entry++) {
            exists[entry] = false;
        }
        for (int row = 0; row < rowCounts[snapshot]; row++) {
            int cell = snapshot * ROWS + row;
            int parent = entryBelow(ROOT, rowPaths[cell] / BASE);
            int name = rowPaths[cell] % BASE - 1;
            // Only the root and the earlier rows have numbers by now, so the
            // least free one is row + 1.
            place(row + 1, parent, name, rowIsFile[cell], rowContents[cell]);
        }
        return rowCounts[snapshot];
    }

    public int differing(int a, int b) {
        if (!isGoodSnapshot(a) || !isGoodSnapshot(b)) {
            return -1;
        }
        int count = 0;
        int path = nextDifference(a, b, 0);
        for (int step = 0; step < 2 * ROWS && path != NONE; step++) {
            count++;
            path = nextDifference(a, b, path);
        }
        return count;
    }

    public int difference(int a, int b, int i) {
        if (!isGoodSnapshot(a) || !isGoodSnapshot(b)) {
            return -1;
        }
        if (i < 0 || i >= 2 * ROWS) {
            return -2;
        }
        int path = nextDifference(a, b, 0);
        for (int step = 0; step < i && path != NONE; step++) {
            path = nextDifference(a, b, path);
        }
        return path == NONE ? -2 : path;
    }

    public int changed(int snapshot) {
        if (!isGoodSnapshot(snapshot)) {
            return -1;
        }
        int count = 0;
        for (int row = 0; row < rowCounts[snapshot]; row++) {
            if (!standsInTree(snapshot * ROWS + row)) {
                count++;
            }
        }
        for (int entry = 1; entry < ENTRIES; entry++) {
            // A path in both was counted above if it differs.
            if (exists[entry] && !hasPathOf(snapshot, entry)) {
                count++;
            }
        }
        return count;
    }

    public int alike(int x, int y) {
        if (!isGoodEntry(x) || !isGoodEntry(y)) {
            return -1;
        }
        return areAlike(x, y) ? 1 : 0;
    }

    public int twins(int entry) {
        if (!isGoodEntry(entry)) {
            return -1;
        }
        int count = 0;
        for (int other = 0; other < ENTRIES; other++) {
            if (exists[other] && areAlike(entry, other)) {
                count++;
            }
        }
        return count;
    }

    public int repeated(int snapshot) {
        if (!isGoodSnapshot(snapshot)) {
            return 0;
        }
        boolean found = false;
        int least = 0;
        for (int row = 0; row < rowCounts[snapshot]; row++) {
            int cell = snapshot * ROWS + row;
            if (isRepeatedLater(snapshot, row) && (!found || rowContents[cell] < least)) {
                found = true;
                least = rowContents[cell];
            }
        }
        return least;
    }

    private boolean isGoodEntry(int entry) {
        return entry >= 0 && entry < ENTRIES && exists[entry];
    }

    private boolean isGoodName(int name) {
        return name >= 0 && name < NAMES;
    }

    private boolean isGoodSnapshot(int snapshot) {
        return snapshot >= 0 && snapshot < SNAPSHOTS;
    }

    private int make(int parent, int name, boolean asFile, int content) {
        if (!isGoodEntry(parent)) {
            return -1;
        }
        if (isFile[parent]) {
            return -2;
        }
        if (!isGoodName(name)) {
            return -3;
        }
        if (childNamed(parent, name) != NONE) {
            return -4;
        }
        if (depthOf(parent) >= MAX_DEPTH) {
            return -5;
        }
        int entry = leastFree();
        if (entry == NONE) {
            return -6;
        }
        place(entry, parent, name, asFile, content);
        return entry;
    }

    private void place(int entry, int parent, int name, boolean asFile, int content) {
        exists[entry] = true;
        isFile[entry] = asFile;
        parents[entry] = parent;
        names[entry] = name;
        contents[entry] = content;
    }

    private int leastFree() {
        for (int entry = 1; entry < ENTRIES; entry++) {
            if (!exists[entry]) {
                return entry;
            }
        }
        return NONE;
    }

    private int childNamed(int parent, int name) {
        for (int entry = 1; entry < ENTRIES; entry++) {
            if (exists[entry] && parents[entry] == parent && names[entry] == name) {
                return entry;
            }
        }
        return NONE;
    }

    /** The names from top (left out) down to entry as a number: 0 for top itself, NONE if entry isn't below it. */
    private int pathBelow(int top, int entry) {
        int number = 0;
        int weight = 1;
        int at = entry;
        for (int step = 0; step < MAX_DEPTH && at != top && at != ROOT; step++) {
            number += (names[at] + 1) * weight;
            weight *= BASE;
            at = parents[at];
        }
        return at == top ? number : NONE;
    }

    /** The existing entry that has this path, counted from top; NONE if there is none. */
    private int entryBelow(int top, int path) {
        if (path < 0) {
            return NONE;
        }
        for (int entry = 0; entry < ENTRIES; entry++) {
            if (exists[entry] && pathBelow(top, entry) == path) {
                return entry;
            }
        }
        return NONE;
    }

    /** The existing entry with the least path above this one; NONE if there is none. */
    private int entryAfter(int path) {
        int best = NONE;
        int bestPath = NONE;
        for (int entry = 1; entry < ENTRIES; entry++) {
            if (!exists[entry]) {
                continue;
            }
            int found = pathBelow(ROOT, entry);
            if (found > path && (best == NONE || found < bestPath)) {
                best = entry;
                bestPath = found;
            }
        }
        return best;
    }

    private int depthOf(int entry) {
        int path = pathBelow(ROOT, entry);
        return lengthOf(path);
    }

    /** How many levels there are below an entry. */
    private int heightOf(int entry) {
        int longest = 0;
        for (int other = 1; other < ENTRIES; other++) {
            if (!exists[other]) {
                continue;
            }
            int below = pathBelow(entry, other);
            // Longer paths are greater numbers, so the greatest is a longest.
            if (below > longest) {
                longest = below;
            }
        }
        return lengthOf(longest);
    }

    private int lengthOf(int path) {
        int length = 0;
        int rest = path;
        for (int step = 0; step < MAX_DEPTH && rest > 0; step++) {
            rest /= BASE;
            length++;
        }
        return length;
    }

    private boolean areAlike(int x, int y) {
        for (int entry = 0; entry < ENTRIES; entry++) {
            if (exists[entry] && !(isMatched(x, entry, y) && isMatched(y, entry, x))) {
                return false;
            }
        }
        return true;
    }

    /** False if entry stands below top (or is top) and nothing like it stands at the same place below otherTop. */
    private boolean isMatched(int top, int entry, int otherTop) {
        int below = pathBelow(top, entry);
        if (below == NONE) {
            return true;
        }
        int match = entryBelow(otherTop, below);
        return match != NONE && isFile[match] == isFile[entry] && contents[match] == contents[entry];
    }

    private int cellOf(int snapshot, int path) {
        for (int row = 0; row < rowCounts[snapshot]; row++) {
            if (rowPaths[snapshot * ROWS + row] == path) {
                return snapshot * ROWS + row;
            }
        }
        return NONE;
    }

    private boolean hasPathOf(int snapshot, int entry) {
        int path = pathBelow(ROOT, entry);
        return cellOf(snapshot, path) != NONE;
    }

    private boolean standsInTree(int cell) {
        int entry = entryBelow(ROOT, rowPaths[cell]);
        return entry != NONE && isFile[entry] == rowIsFile[cell] && contents[entry] == rowContents[cell];
    }

    private boolean standsInSnapshot(int cell, int snapshot) {
        int other = cellOf(snapshot, rowPaths[cell]);
        return other != NONE && rowIsFile[other] == rowIsFile[cell] && rowContents[other] == rowContents[cell];
    }

    /** The least path above this one at which two snapshots differ; NONE if there is none. */
    private int nextDifference(int a, int b, int path) {
        int inA = nextUnmatched(a, b, path);
        int inB = nextUnmatched(b, a, path);
        if (inA == NONE) {
            return inB;
        }
        return inB == NONE || inA < inB ? inA : inB;
    }

    /** The least path of snapshot above this one that doesn't stand the same in other; NONE if there is none. */
    private int nextUnmatched(int snapshot, int other, int path) {
        for (int row = 0; row < rowCounts[snapshot]; row++) {
            int cell = snapshot * ROWS + row;
            if (rowPaths[cell] > path && !standsInSnapshot(cell, other)) {
                return rowPaths[cell];
            }
        }
        return NONE;
    }

    /** Whether the row is a file and a later row of the snapshot is a file with the same content. */
    private boolean isRepeatedLater(int snapshot, int row) {
        int cell = snapshot * ROWS + row;
        if (!rowIsFile[cell]) {
            return false;
        }
        for (int later = row + 1; later < rowCounts[snapshot]; later++) {
            int other = snapshot * ROWS + later;
            if (rowIsFile[other] && rowContents[other] == rowContents[cell]) {
                return true;
            }
        }
        return false;
    }
}
