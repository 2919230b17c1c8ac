/**
 * The edges of the tree: a test for each sentence of 'Terms' on nodes and of promises 1 to 6 that
 * names one. Each part is headed by the sentence's words.
 */
public final class TreeEdgeTest {
    private static final int REFUSED = TransletDesk.REFUSED;
    private static final int LEAST = Integer.MIN_VALUE, GREATEST = Integer.MAX_VALUE;

    /** None of these is a node of the tree of the tests; 32 would be 0 to a shift of an int. */
    private static final int[] NO_NODES = {-1, -2, 8, 23, 24, 25, 32, 40, -32, LEAST, GREATEST};
    private static final int[] NO_NAMES = {-1, 6, 7, 8, 16, LEAST, GREATEST};

    private TreeEdgeTest() {
    }

    public static void main(String[] args) {
        constants();
        numbersOfNodes();
        leastNumber();
        leastNumberOfAll();
        nameOfInsert();
        valueAtFirst();
        documentOrder();
        nothingAtFirst();
        rootWithoutLook();
        rootWithWrongName();
        placeOfInsert();
        placeOfInsertAmongMost();
        insertWithWrongName();
        insertWithWrongParent();
        insertWithWrongPlace();
        insertIntoFullTree();
        removeOne();
        removeWithAllBelow();
        removeRoot();
        removeNone();
        moveToEachPlace();
        moveCountedWithoutIt();
        moveWithAllBelow();
        moveOfNone();
        moveBelowItself();
        moveToWrongPlace();
        moveInFullTree();
        changeNames();
        changeValues();
        changeOfNone();
        changeToWrongName();
        childPlaces();
        childOfNone();
        Due.end();
    }

    private static void constants() {
        Due.part("the public face: the constants");
        Due.same("REFUSED", TransletDesk.REFUSED, -1);
        Due.same("WRONG", TransletDesk.WRONG, -2);
        Due.same("STALLS", TransletDesk.STALLS, -3);
        Due.same("SET", TransletDesk.SET, 0);
        Due.same("NUMBER", TransletDesk.NUMBER, 1);
        Due.same("TRUTH", TransletDesk.TRUTH, 2);
    }

    private static void numbersOfNodes() {
        Due.part("Terms: nodes 0 .. 23");
        TransletDesk desk = new TransletDesk();
        for (int i = 0; i < 24; i++) {
            Due.same("insert " + i, desk.insert(0, 0, 0), i);
        }
        for (int i = 0; i < 24; i++) {
            Due.yes("change(" + i + ")", desk.change(i, 1, i));
        }
        Due.no("change(24)", desk.change(24, 1, 0));
        Due.no("change(-1)", desk.change(-1, 1, 0));
    }

    private static void leastNumber() {
        Due.part("Terms: the least number that is not in use");
        TransletDesk desk = Due.tree();
        Due.same("0 .. 7 are in use", desk.insert(5, 0, 0), 8);
        Due.same("2, 6, 7 go", desk.remove(2), 3);
        Due.same("the least", desk.insert(8, 0, 0), 2);
        Due.same("the next", desk.insert(0, 0, 0), 6);
        Due.same("5, 8, 2 go", desk.remove(5), 3);
        Due.same("the least", desk.insert(0, 1, 0), 2);
        Due.same("the next", desk.insert(0, 1, 0), 5);
        Due.same("the next", desk.insert(0, 1, 0), 7);
        Due.same("the next", desk.insert(0, 1, 0), 8);
        Due.same("the next", desk.insert(0, 1, 0), 9);
        Due.children(desk, 0, 6, 9, 8, 7, 5, 2, 1);
    }

    private static void leastNumberOfAll() {
        Due.part("Terms: the least number that is not in use, of 24");
        TransletDesk desk = Due.flat(23);
        int[] gone = {23, 1, 12};
        for (int node : gone) {
            Due.same("remove(" + node + ")", desk.remove(node), 1);
            Due.same("the only one that is free", desk.insert(0, 0, 0), node);
        }
        Due.same("remove(0)", desk.remove(0), 24);
        Due.same("0 is free again", desk.insert(0, 0, 0), 0);
        Due.same("1 is free again", desk.insert(0, 0, 0), 1);
    }

    private static void nameOfInsert() {
        Due.part("Terms: a name 0 .. 5");
        for (int name = 0; name <= 5; name++) {
            TransletDesk desk = new TransletDesk();
            Due.same("a root with the name " + name, desk.insert(0, 0, name), 0);
            Due.same("a child with the name " + name, desk.insert(0, 0, 5 - name), 1);
            Due.put(desk, 0, Due.STEP, Due.step(9, name, 0), Due.ROOT, 0);
            Due.set("the nodes with the name " + name, desk, 0, 0, 0);
            Due.put(desk, 0, Due.STEP, Due.step(9, 5 - name, 0), Due.ROOT, 0);
            Due.set("the nodes with the name " + (5 - name), desk, 0, 0, 1);
        }
    }

    private static void valueAtFirst() {
        Due.part("Terms: a value, 0 at first");
        TransletDesk desk = Due.chain(2);
        Due.put(desk, 0, Due.HERE, 0);
        Due.same("the root", desk.number(0, 0), 0);
        Due.same("a child", desk.number(0, 1), 0);
        desk.change(0, 0, 5);
        desk.change(1, 0, 6);
        desk.remove(1);
        Due.same("a number used again", desk.insert(0, 0, 0), 1);
        Due.same("its value", desk.number(0, 1), 0);
        desk.change(1, 0, 7);
        desk.remove(0);
        Due.same("a new root", desk.insert(0, 0, 0), 0);
        Due.same("its value", desk.number(0, 0), 0);
    }

    /** Numbers against the order: what is made last stands first. */
    private static void documentOrder() {
        Due.part("Terms: a node before its children, these with all below them behind each other");
        TransletDesk desk = new TransletDesk();
        desk.insert(0, 0, 0);
        desk.insert(0, 0, 0);
        desk.insert(0, 0, 0);
        desk.insert(1, 0, 0);
        desk.insert(1, 0, 0);
        desk.insert(2, 0, 0);
        desk.insert(5, 0, 0);
        desk.insert(2, 0, 0);
        Due.put(desk, 0, Due.STEP, Due.step(9, Due.ANY, 0), Due.ROOT, 0);
        Due.set("all", desk, 0, 0, 0, 2, 7, 5, 6, 1, 4, 3);
        Due.put(desk, 0, Due.STEP, Due.step(9, Due.ANY, 0), Due.HERE, 0);
        Due.set("all of 2", desk, 0, 2, 2, 7, 5, 6);
    }

    private static void nothingAtFirst() {
        Due.part("promise 1: no nodes, no expressions, no templates");
        TransletDesk desk = new TransletDesk();
        for (int node = -1; node <= 24; node++) {
            Due.same("child(" + node + ", 0)", desk.child(node, 0), REFUSED);
            Due.same("transform(" + node + ")", desk.transform(node), REFUSED);
            Due.no("move(" + node + ", 0, 0)", desk.move(node, 0, 0));
        }
        for (int slot = 0; slot < 8; slot++) {
            Due.same("an empty draft for " + slot, desk.expression(slot), TransletDesk.WRONG);
        }
        Due.same("the first node", desk.insert(0, 0, 0), 0);
        for (int slot = 0; slot < 8; slot++) {
            Due.same("size(" + slot + ", 0)", desk.size(slot, 0), REFUSED);
            Due.same("number(" + slot + ", 0)", desk.number(slot, 0), 0);
            Due.no("holds(" + slot + ", 0)", desk.holds(slot, 0));
        }
        Due.put(desk, 0, Due.HERE, 0);
        for (int t = 0; t < 6; t++) {
            Due.no("matches(" + t + ", 0)", desk.matches(t, 0));
            Due.no("drop(" + t + ")", desk.drop(t));
        }
        Due.same("transform(0)", desk.transform(0), 0);
        Due.same("two objects have nothing in common", new TransletDesk().child(0, 0), REFUSED);
        Due.same("two objects have nothing in common", new TransletDesk().insert(0, 0, 0), 0);
    }

    private static void rootWithoutLook() {
        Due.part("promise 2: parent and k are not looked at then");
        int[] odd = {LEAST, -1, 0, 1, 23, 24, GREATEST};
        TransletDesk desk = new TransletDesk();
        for (int parent : odd) {
            for (int k : odd) {
                Due.same("insert(" + parent + ", " + k + ", 1)", desk.insert(parent, k, 1), 0);
                Due.same("the root has no child", desk.child(0, 0), REFUSED);
                Due.same("remove(0)", desk.remove(0), 1);
            }
        }
    }

    private static void rootWithWrongName() {
        Due.part("promise 2: REFUSED if name is not so, for the root too");
        TransletDesk desk = new TransletDesk();
        for (int name : NO_NAMES) {
            Due.same("insert(0, 0, " + name + ")", desk.insert(0, 0, name), REFUSED);
            Due.same("there is no root then", desk.remove(0), REFUSED);
        }
        Due.same("a root with a name", desk.insert(0, 0, 5), 0);
    }

    private static void placeOfInsert() {
        Due.part("promise 2: child k (0 .. the number of children)");
        TransletDesk desk = Due.tree();
        Due.same("0 of none", desk.insert(5, 0, 0), 8);
        Due.children(desk, 5, 8);
        Due.same("1 of one", desk.insert(5, 1, 0), 9);
        Due.children(desk, 5, 8, 9);
        Due.same("0 of two", desk.insert(5, 0, 0), 10);
        Due.children(desk, 5, 10, 8, 9);
        Due.same("1 of three", desk.insert(5, 1, 0), 11);
        Due.children(desk, 5, 10, 11, 8, 9);
        Due.same("4 of four", desk.insert(5, 4, 0), 12);
        Due.children(desk, 5, 10, 11, 8, 9, 12);
        Due.children(desk, 0, 1, 2, 5);
        Due.children(desk, 1, 4, 3);
        Due.children(desk, 2, 6, 7);
    }

    private static void placeOfInsertAmongMost() {
        Due.part("promise 2: child k (0 .. the number of children), of 22");
        for (int k = -1; k <= 23; k++) {
            TransletDesk desk = Due.flat(22);
            boolean fine = k >= 0 && k <= 22;
            Due.same("k = " + k, desk.insert(0, k, 0), fine ? 23 : REFUSED);
            for (int i = 0; i <= 23; i++) {
                int want = i < 22 ? i + 1 : REFUSED;
                if (fine && i >= k) {
                    want = i == k ? 23 : i <= 22 ? i : REFUSED;
                }
                Due.same("k = " + k + ": child " + i, desk.child(0, i), want);
            }
        }
    }

    private static void insertWithWrongName() {
        Due.part("promise 2: REFUSED if name is not so");
        TransletDesk desk = Due.tree();
        for (int name : NO_NAMES) {
            Due.same("name " + name, desk.insert(0, 0, name), REFUSED);
            Due.same("name " + name, desk.insert(7, 0, name), REFUSED);
        }
        Due.treeAsMade(desk);
        Due.same("name 0", desk.insert(0, 0, 0), 8);
        Due.same("name 5", desk.insert(0, 0, 5), 9);
    }

    private static void insertWithWrongParent() {
        Due.part("promise 2: REFUSED if parent is not so");
        TransletDesk desk = Due.tree();
        for (int parent : NO_NODES) {
            Due.same("parent " + parent, desk.insert(parent, 0, 0), REFUSED);
        }
        Due.treeAsMade(desk);
        desk.remove(2);
        Due.same("a parent that is gone", desk.insert(2, 0, 0), REFUSED);
        Due.same("a parent that is gone with it", desk.insert(6, 0, 0), REFUSED);
        Due.same("a parent that is there", desk.insert(5, 0, 0), 2);
    }

    private static void insertWithWrongPlace() {
        Due.part("promise 2: REFUSED if k is not so");
        TransletDesk desk = Due.tree();
        int[] children = {3, 2, 2, 0, 0, 0, 0, 0};
        for (int parent = 0; parent < 8; parent++) {
            int[] odd = {-1, LEAST, children[parent] + 1, children[parent] + 2, GREATEST};
            for (int k : odd) {
                Due.same("insert(" + parent + ", " + k + ", 0)", desk.insert(parent, k, 0), REFUSED);
            }
        }
        Due.treeAsMade(desk);
        Due.same("k = the number of children", desk.insert(1, 2, 0), 8);
        Due.children(desk, 1, 4, 3, 8);
    }

    private static void insertIntoFullTree() {
        Due.part("promise 2: REFUSED if there are 24");
        TransletDesk desk = Due.flat(22);
        Due.same("there are 23", desk.insert(1, 0, 0), 23);
        Due.same("there are 24", desk.insert(0, 0, 0), REFUSED);
        Due.same("there are 24", desk.insert(23, 0, 5), REFUSED);
        Due.same("there are 24, and all is wrong", desk.insert(-1, -1, -1), REFUSED);
        Due.children(desk, 1, 23);
        Due.children(desk, 23);
        Due.same("child(0, 0)", desk.child(0, 0), 1);
        Due.same("child(0, 21)", desk.child(0, 21), 22);
        Due.same("child(0, 22)", desk.child(0, 22), REFUSED);
        Due.same("two go", desk.remove(1), 2);
        Due.same("there are 22", desk.insert(0, 0, 0), 1);
        Due.same("there are 23", desk.insert(0, 0, 0), 23);
        Due.same("there are 24", desk.insert(0, 0, 0), REFUSED);
    }

    private static void removeOne() {
        Due.part("promise 3: a node goes: how many");
        int[][] left = {{2, 3, 4}, {1, 3, 4}, {1, 2, 4}, {1, 2, 3}};
        for (int node = 1; node <= 4; node++) {
            TransletDesk desk = Due.flat(4);
            Due.same("remove(" + node + ")", desk.remove(node), 1);
            Due.children(desk, 0, left[node - 1]);
            Due.same("behind all", desk.insert(0, 3, 0), node);
            Due.same("the new one", desk.child(0, 3), node);
        }
    }

    private static void removeWithAllBelow() {
        Due.part("promise 3: and all below it go: how many");
        for (int node = 0; node < 24; node++) {
            TransletDesk desk = Due.chain(24);
            Due.same("remove(" + node + ")", desk.remove(node), 24 - node);
            for (int i = 0; i < 24; i++) {
                Due.same("change(" + i + ")", desk.change(i, 0, 1) ? 1 : 0, i < node ? 1 : 0);
            }
            Due.same("the least number", desk.insert(node - 1, 0, 0), node);
            Due.children(desk, node);
        }
        TransletDesk desk = Due.tree();
        Due.same("remove(1)", desk.remove(1), 3);
        Due.children(desk, 0, 2, 5);
        Due.children(desk, 2, 6, 7);
        Due.same("remove(2)", desk.remove(2), 3);
        Due.children(desk, 0, 5);
    }

    private static void removeRoot() {
        Due.part("promise 3: all of the tree");
        TransletDesk desk = Due.flat(23);
        Due.same("of 24", desk.remove(0), 24);
        for (int node = 0; node < 24; node++) {
            Due.same("remove(" + node + ")", desk.remove(node), REFUSED);
        }
        Due.same("a root alone", desk.insert(0, 0, 0), 0);
        Due.same("of 1", desk.remove(0), 1);
        Due.same("of none", desk.remove(0), REFUSED);
    }

    private static void removeNone() {
        Due.part("promise 3: REFUSED if there is none");
        TransletDesk desk = Due.tree();
        for (int node : NO_NODES) {
            Due.same("remove(" + node + ")", desk.remove(node), REFUSED);
        }
        Due.treeAsMade(desk);
        Due.same("remove(6)", desk.remove(6), 1);
        Due.same("remove(6) again", desk.remove(6), REFUSED);
        Due.same("the one above it", desk.remove(2), 2);
        Due.same("one below that", desk.remove(7), REFUSED);
    }

    private static void moveToEachPlace() {
        Due.part("promise 4: becomes child k of parent");
        int[][] want = {{7, 1, 2, 5}, {1, 7, 2, 5}, {1, 2, 7, 5}, {1, 2, 5, 7}};
        for (int k = 0; k < 4; k++) {
            TransletDesk desk = Due.tree();
            Due.yes("move(7, 0, " + k + ")", desk.move(7, 0, k));
            Due.children(desk, 0, want[k]);
            Due.children(desk, 2, 6);
        }
        TransletDesk desk = Due.tree();
        Due.yes("to a node without children", desk.move(7, 5, 0));
        Due.children(desk, 5, 7);
        Due.yes("the first of two", desk.move(4, 3, 0));
        Due.children(desk, 1, 3);
        Due.children(desk, 3, 4);
    }

    private static void moveCountedWithoutIt() {
        Due.part("promise 4: child k of parent (counted without it)");
        int[][] want = {{1, 2, 3, 4}, {2, 1, 3, 4}, {2, 3, 1, 4}, {2, 3, 4, 1}};
        int[][] wantOf3 = {{3, 1, 2, 4}, {1, 3, 2, 4}, {1, 2, 3, 4}, {1, 2, 4, 3}};
        for (int k = 0; k < 4; k++) {
            TransletDesk desk = Due.flat(4);
            Due.yes("move(1, 0, " + k + ")", desk.move(1, 0, k));
            Due.children(desk, 0, want[k]);
            desk = Due.flat(4);
            Due.yes("move(3, 0, " + k + ")", desk.move(3, 0, k));
            Due.children(desk, 0, wantOf3[k]);
        }
        TransletDesk desk = Due.flat(4);
        Due.no("k = 4 of three others", desk.move(1, 0, 4));
        Due.no("k = 4 of three others", desk.move(4, 0, 4));
        Due.children(desk, 0, 1, 2, 3, 4);
        desk = Due.chain(2);
        Due.yes("the only child to where it is", desk.move(1, 0, 0));
        Due.no("k = 1 of no others", desk.move(1, 0, 1));
        Due.children(desk, 0, 1);
    }

    private static void moveWithAllBelow() {
        Due.part("promise 4: a node with all below it");
        TransletDesk desk = Due.tree();
        Due.put(desk, 0, Due.STEP, Due.step(9, Due.ANY, 0), Due.ROOT, 0);
        Due.put(desk, 1, Due.STEP, Due.step(10, Due.ANY, 0), Due.HERE, 0);
        Due.yes("move(2, 4, 0)", desk.move(2, 4, 0));
        Due.set("all", desk, 0, 0, 0, 1, 4, 2, 6, 7, 3, 5);
        Due.set("7 and all above", desk, 1, 7, 0, 1, 4, 2, 7);
        Due.yes("move(1, 5, 0)", desk.move(1, 5, 0));
        Due.set("all", desk, 0, 0, 0, 5, 1, 4, 2, 6, 7, 3);
        Due.children(desk, 2, 6, 7);
        Due.children(desk, 1, 4, 3);
        Due.put(desk, 1, Due.HERE, 0);
        Due.same("its value goes with it", desk.number(1, 7), 70);
        Due.same("the number of all below", desk.remove(1), 6);
    }

    private static void moveOfNone() {
        Due.part("promise 4: false, and nothing changes, if one is none");
        TransletDesk desk = Due.tree();
        for (int node : NO_NODES) {
            Due.no("move(" + node + ", 0, 0)", desk.move(node, 0, 0));
            Due.no("move(1, " + node + ", 0)", desk.move(1, node, 0));
            Due.no("move(" + node + ", " + node + ", 0)", desk.move(node, node, 0));
        }
        Due.treeAsMade(desk);
        desk.remove(7);
        Due.no("a node that is gone", desk.move(7, 0, 0));
        Due.no("a parent that is gone", desk.move(1, 7, 0));
        Due.yes("both are there", desk.move(1, 6, 0));
    }

    private static void moveBelowItself() {
        Due.part("promise 4: false, and nothing changes, if parent is the node or below it");
        TransletDesk desk = Due.tree();
        for (int node = 0; node < 8; node++) {
            Due.no("move(" + node + ", " + node + ", 0)", desk.move(node, node, 0));
            Due.no("move(0, " + node + ", 0)", desk.move(0, node, 0));
        }
        Due.no("to its first child", desk.move(1, 4, 0));
        Due.no("to its last child", desk.move(1, 3, 0));
        Due.treeAsMade(desk);
        desk = Due.chain(24);
        Due.no("to the one 22 below it", desk.move(1, 23, 0));
        Due.no("to the one 2 below it", desk.move(21, 23, 0));
        Due.yes("to the one above it", desk.move(23, 22, 0));
        Due.yes("to the one 22 above it", desk.move(23, 1, 0));
        Due.children(desk, 1, 23, 2);
        Due.yes("to one that was above it", desk.move(2, 23, 0));
        Due.children(desk, 1, 23);
        Due.children(desk, 23, 2);
    }

    private static void moveToWrongPlace() {
        Due.part("promise 4: false, and nothing changes, if k is not so");
        TransletDesk desk = Due.tree();
        int[] odd = {-1, LEAST, GREATEST};
        for (int k : odd) {
            Due.no("move(1, 2, " + k + ")", desk.move(1, 2, k));
            Due.no("move(1, 0, " + k + ")", desk.move(1, 0, k));
            Due.no("move(1, 5, " + k + ")", desk.move(1, 5, k));
        }
        Due.no("k = 3 of 2", desk.move(1, 2, 3));
        Due.no("k = 3 of 2 others", desk.move(1, 0, 3));
        Due.no("k = 4 of 3", desk.move(7, 0, 4));
        Due.no("k = 1 of none", desk.move(1, 5, 1));
        Due.treeAsMade(desk);
        Due.yes("k = 2 of 2", desk.move(1, 2, 2));
        Due.children(desk, 2, 6, 7, 1);
    }

    private static void moveInFullTree() {
        Due.part("promise 4: of 24 nodes");
        TransletDesk desk = Due.flat(23);
        Due.yes("to the front", desk.move(23, 0, 0));
        Due.yes("behind all", desk.move(1, 0, 22));
        Due.same("child(0, 0)", desk.child(0, 0), 23);
        Due.same("child(0, 1)", desk.child(0, 1), 2);
        Due.same("child(0, 21)", desk.child(0, 21), 22);
        Due.same("child(0, 22)", desk.child(0, 22), 1);
        Due.same("child(0, 23)", desk.child(0, 23), REFUSED);
        Due.yes("below another", desk.move(23, 1, 0));
        Due.children(desk, 1, 23);
        Due.same("there are still 24", desk.insert(0, 0, 0), REFUSED);
        Due.same("all", desk.remove(0), 24);
    }

    private static void changeNames() {
        Due.part("promise 5: its name from now on, 0 .. 5");
        TransletDesk desk = Due.tree();
        for (int name = 0; name <= 5; name++) {
            Due.yes("change(5, " + name + ", 50)", desk.change(5, name, 50));
            for (int asked = 0; asked <= 5; asked++) {
                Due.put(desk, 0, Due.STEP, Due.step(0, asked, 0), Due.HERE, 0);
                Due.same("it has the name " + asked, desk.size(0, 5), asked == name ? 1 : 0);
            }
        }
        Due.yes("as it was", desk.change(5, 2, 50));
        Due.treeAsMade(desk);
    }

    private static void changeValues() {
        Due.part("promise 5: its value from now on");
        TransletDesk desk = Due.tree();
        Due.put(desk, 0, Due.HERE, 0);
        int[] values = {LEAST, -1, 0, 1, GREATEST};
        for (int value : values) {
            Due.yes("change(0, 0, " + value + ")", desk.change(0, 0, value));
            Due.yes("change(7, 1, " + value + ")", desk.change(7, 1, value));
            Due.same("the value of 0", desk.number(0, 0), value);
            Due.same("the value of 7", desk.number(0, 7), value);
            Due.same("the value of 6", desk.number(0, 6), 60);
        }
        desk.move(7, 0, 0);
        Due.same("the value of 7 after a move", desk.number(0, 7), GREATEST);
    }

    private static void changeOfNone() {
        Due.part("promise 5: false if there is none");
        TransletDesk desk = Due.tree();
        for (int node : NO_NODES) {
            Due.no("change(" + node + ", 0, 1)", desk.change(node, 0, 1));
        }
        Due.treeAsMade(desk);
        desk.remove(2);
        Due.no("one that is gone", desk.change(2, 0, 1));
        Due.no("one that is gone with it", desk.change(7, 0, 1));
        Due.same("the number is used again", desk.insert(0, 0, 0), 2);
        Due.same("with the value 0", desk.number(7, 2), 0);
    }

    private static void changeToWrongName() {
        Due.part("promise 5: false if name is not 0 .. 5");
        TransletDesk desk = Due.tree();
        for (int name : NO_NAMES) {
            Due.no("change(0, " + name + ", 1)", desk.change(0, name, 1));
            Due.no("change(7, " + name + ", 1)", desk.change(7, name, 1));
        }
        Due.treeAsMade(desk);
    }

    private static void childPlaces() {
        Due.part("promise 6: child k of a node; REFUSED if there is none");
        TransletDesk desk = Due.tree();
        int[] children = {3, 2, 2, 0, 0, 0, 0, 0};
        for (int node = 0; node < 8; node++) {
            int[] odd = {-1, LEAST, children[node], children[node] + 1, 23, 24, GREATEST};
            for (int k : odd) {
                Due.same("child(" + node + ", " + k + ")", desk.child(node, k), REFUSED);
            }
        }
        Due.treeAsMade(desk);
        desk = Due.flat(23);
        for (int k = 0; k < 23; k++) {
            Due.same("child(0, " + k + ")", desk.child(0, k), k + 1);
        }
        Due.same("child(0, 23)", desk.child(0, 23), REFUSED);
    }

    private static void childOfNone() {
        Due.part("promise 6: REFUSED if there is no such node");
        TransletDesk desk = Due.tree();
        for (int node : NO_NODES) {
            for (int k = -1; k <= 1; k++) {
                Due.same("child(" + node + ", " + k + ")", desk.child(node, k), REFUSED);
            }
        }
        desk.remove(1);
        Due.same("one that is gone", desk.child(1, 0), REFUSED);
        Due.same("one that is gone with it", desk.child(4, 0), REFUSED);
        desk.remove(0);
        Due.same("no root", desk.child(0, 0), REFUSED);
        Due.same("above the root", desk.child(-1, 0), REFUSED);
    }
}
