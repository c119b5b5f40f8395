/** What the tests share: telling of wrong answers, values at the bounds, and trees to start from. */
abstract class Checks {
    static final int LEAST = Integer.MIN_VALUE;
    static final int MOST = Integer.MAX_VALUE;
    // Beside the neighbours of the good values, some that a mask or a remainder would turn into good ones.
    static final int[] NOT_ENTRIES = {-1, 24, -23, -24, 25, 32, 256, LEAST, LEAST + 1, MOST};
    static final int[] NOT_NAMES = {-1, 8, -7, -8, 9, 16, 256, LEAST, LEAST + 1, MOST};
    static final int[] NOT_SNAPSHOTS = {-1, 3, -2, -3, 4, 6, 256, LEAST, LEAST + 1, MOST};
    static final int[] CONTENTS = {LEAST, LEAST + 1, -2, -1, 0, 1, 23, 24, MOST - 1, MOST};
    static final boolean[] KINDS = {false, true};
    private static final int SHOWN = 200;
    private static int wrong = 0;
    private static String sentence = "";

    interface Ask {
        int of(TreeHasher x, int value);
    }

    /** The sentence of the document that the checks from here on are for. */
    static void sentence(String words) {
        sentence = "\"" + words + "\": ";
    }

    static void due(String what, long got, long want) {
        if (got != want) {
            fail(what + " answered " + got + ", due is " + want);
        }
    }

    static void fail(String what) {
        wrong++;
        if (wrong <= SHOWN) {
            System.out.println(sentence + what);
        }
    }

    /** Each test's last call. */
    static void end() {
        System.out.println(wrong == 0 ? "all answers are as due" : wrong + " answers are not as due");
        if (wrong != 0) {
            System.exit(1);
        }
    }

    /** A chain of directories 1 .. depth, all with the same name. */
    static TreeHasher chain(int depth, int name) {
        TreeHasher x = new TreeHasher();
        for (int entry = 1; entry <= depth; entry++) {
            due("making a chain", x.directory(entry - 1, name), entry);
        }
        return x;
    }

    /** 24 entries: directories 1, 2 and 3 (names 0, 1, 2), with files 4 .. 11, 12 .. 19 and 20 .. 23. */
    static TreeHasher full() {
        TreeHasher x = new TreeHasher();
        for (int name = 0; name < 3; name++) {
            due("making a full tree", x.directory(0, name), name + 1);
        }
        for (int entry = 4; entry < 24; entry++) {
            due("making a full tree", x.file(1 + (entry - 4) / 8, (entry - 4) % 8, entry), entry);
        }
        return x;
    }

    static int make(TreeHasher x, boolean asFile, int parent, int name) {
        return asFile ? x.file(parent, name, 5) : x.directory(parent, name);
    }

    static int pathOf(int... names) {
        int path = 0;
        for (int name : names) {
            path = path * 9 + name + 1;
        }
        return path;
    }

    static int power(int exponent) {
        int power = 1;
        for (int i = 0; i < exponent; i++) {
            power *= 9;
        }
        return power;
    }

    /** The path of this many names 0. */
    static int ones(int length) {
        return pathOf(new int[length]);
    }

    /** Entries that can't be, that are not made yet and that are no more get the refusal; all others don't. */
    static void onlyGoodEntries(String call, Ask ask, int refusal) {
        for (int entry : NOT_ENTRIES) {
            due(call + " of " + entry + " in a new object", ask.of(new TreeHasher(), entry), refusal);
            due(call + " of " + entry + " in a full tree", ask.of(full(), entry), refusal);
        }
        for (int entry = 1; entry < 24; entry++) {
            due(call + " of " + entry + ", not made yet", ask.of(new TreeHasher(), entry), refusal);
            due(call + " of " + entry + " refused", ask.of(full(), entry) == refusal ? 1 : 0, 0);
            TreeHasher x = full();
            x.remove(entry);
            due(call + " of " + entry + ", removed", ask.of(x, entry), refusal);
        }
        TreeHasher above = full();
        above.remove(3);
        due(call + " of 23, removed with its parent", ask.of(above, 23), refusal);
        TreeHasher restored = full();
        restored.restore(2);
        due(call + " of 1 after restoring the empty tree", ask.of(restored, 1), refusal);
    }
}
