/** Compares answers with those that are due, prints the wrong ones and counts them. */
final class Due {
    static final int HERE = 0, ROOT = 1, STEP = 2, UNION = 3, NUM = 4, POSITION = 5, LAST = 6;
    static final int COUNT = 7, SUM = 8, VALUE = 9, ADD = 10, SUB = 11, MUL = 12;
    static final int LESS = 13, SAME = 14, AND = 15, OR = 16, NOT = 17;
    static final int ANY = 6;

    private static int wrong = 0;
    private static int compared = 0;
    private static String part = "";

    private Due() {
    }

    static void part(String name) {
        part = name;
    }

    /** How many answers have been compared so far. */
    static int compared() {
        return compared;
    }

    static void same(String call, long got, long want) {
        compared++;
        if (got != want) {
            wrong++;
            System.out.println(part + ": " + call + " answered " + got + ", due is " + want);
        }
    }

    static void yes(String call, boolean got) {
        same(call, got ? 1 : 0, 1);
    }

    static void no(String call, boolean got) {
        same(call, got ? 1 : 0, 0);
    }

    static void end() {
        System.out.println(wrong == 0 ? "all answers are as due" : wrong + " answers are not as due");
        if (wrong != 0) {
            System.exit(1);
        }
    }

    static int step(int axis, int name, int tests) {
        return axis + 16 * name + 128 * tests;
    }

    /** Makes the expression of a slot of pairs of kind and value. */
    static int put(TransletDesk desk, int slot, int... pairs) {
        for (int i = 0; i + 1 < pairs.length; i += 2) {
            same("token(" + pairs[i] + ", " + pairs[i + 1] + ")",
                desk.token(pairs[i], pairs[i + 1]), i / 2 + 1);
        }
        return desk.expression(slot);
    }

    /** The set that a slot gives at a node is just these nodes, in this order. */
    static void set(String what, TransletDesk desk, int slot, int node, int... nodes) {
        String call = what + " at " + node;
        same(call + ": size", desk.size(slot, node), nodes.length);
        for (int i = 0; i < nodes.length; i++) {
            same(call + ": at " + i, desk.at(slot, node, i), nodes[i]);
        }
        same(call + ": at the end", desk.at(slot, node, nodes.length), TransletDesk.REFUSED);
        same(call + ": at -1", desk.at(slot, node, -1), TransletDesk.REFUSED);
    }

    /** The children of a node are just these, in this order. */
    static void children(TransletDesk desk, int node, int... nodes) {
        for (int i = 0; i < nodes.length; i++) {
            same("child(" + node + ", " + i + ")", desk.child(node, i), nodes[i]);
        }
        same("child(" + node + ", " + nodes.length + ")", desk.child(node, nodes.length),
            TransletDesk.REFUSED);
    }

    /** What the latest transform put out is just this. */
    static void putOut(TransletDesk desk, int... numbers) {
        for (int i = 0; i < numbers.length; i++) {
            same("output(" + i + ")", desk.output(i), numbers[i]);
        }
        same("output(" + numbers.length + ")", desk.output(numbers.length), 0);
    }

    /** A root with that many children, in the order of their numbers, all with the name 0. */
    static TransletDesk flat(int children) {
        TransletDesk desk = new TransletDesk();
        desk.insert(0, 0, 0);
        for (int i = 0; i < children; i++) {
            desk.insert(0, i, 0);
        }
        return desk;
    }

    /** That many nodes, each the only child of the one before it, all with the name 0. */
    static TransletDesk chain(int nodes) {
        TransletDesk desk = new TransletDesk();
        for (int i = 0; i < nodes; i++) {
            desk.insert(i - 1, 0, 0);
        }
        return desk;
    }

    /** The tree of the tests is as it was made; the slots 6 and 7 are used for it. */
    static void treeAsMade(TransletDesk desk) {
        int[][] children = {{1, 2, 5}, {4, 3}, {6, 7}, {}, {}, {}, {}, {}};
        int[][] named = {{0, 3, 6}, {1, 4, 7}, {2, 5}, {}, {}, {}};
        put(desk, 7, HERE, 0);
        for (int i = 0; i < 8; i++) {
            children(desk, i, children[i]);
            same("the value of " + i, desk.number(7, i), 10 * i);
        }
        same("a ninth node", desk.child(8, 0), TransletDesk.REFUSED);
        for (int name = 0; name < 6; name++) {
            put(desk, 6, STEP, step(9, name, 0), ROOT, 0);
            set("the nodes named " + name, desk, 6, 0, named[name]);
        }
        put(desk, 6, STEP, step(9, ANY, 0), ROOT, 0);
        set("all nodes", desk, 6, 0, 0, 1, 4, 3, 2, 6, 7, 5);
    }

    /**
     * The tree of the tests, in document order 0 1 4 3 2 6 7 5, so that it is not that of the
     * numbers: 0 has the children 1, 2, 5; 1 has 4, 3; 2 has 6, 7. Node n has the name n % 3 and
     * the value 10 * n.
     */
    static TransletDesk tree() {
        TransletDesk desk = new TransletDesk();
        desk.insert(0, 0, 0);
        desk.insert(0, 0, 0);
        desk.insert(0, 1, 0);
        desk.insert(1, 0, 0);
        desk.insert(1, 0, 0);
        desk.insert(0, 2, 0);
        desk.insert(2, 0, 0);
        desk.insert(2, 1, 0);
        for (int i = 0; i < 8; i++) {
            desk.change(i, i % 3, 10 * i);
        }
        return desk;
    }
}
