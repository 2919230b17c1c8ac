/** Promises 1 to 6: a new object, insert, remove, move, change, child. */
public final class TreeTest {
    private static final int REFUSED = TransletDesk.REFUSED;
    private static final int LEAST = Integer.MIN_VALUE, GREATEST = Integer.MAX_VALUE;

    private TreeTest() {
    }

    public static void main(String[] args) {
        newObject();
        insertOrdinary();
        insertLimits();
        insertTakesLeastNumber();
        removeOrdinary();
        removeAll();
        moveOrdinary();
        moveRefused();
        changeOrdinary();
        childRefused();
        Due.end();
    }

    private static void newObject() {
        Due.part("promise 1");
        TransletDesk desk = new TransletDesk();
        for (int i = 0; i < 24; i++) {
            Due.same("remove(" + i + ")", desk.remove(i), REFUSED);
            Due.same("child(" + i + ", 0)", desk.child(i, 0), REFUSED);
            Due.no("change(" + i + ", 0, 0)", desk.change(i, 0, 0));
        }
        for (int t = 0; t < 6; t++) {
            Due.no("drop(" + t + ")", desk.drop(t));
        }
        Due.same("transform(0)", desk.transform(0), REFUSED);
        Due.same("output(0)", desk.output(0), 0);
        Due.same("insert(0, 0, 0)", desk.insert(0, 0, 0), 0);
        for (int slot = 0; slot < 8; slot++) {
            Due.same("size(" + slot + ", 0)", desk.size(slot, 0), REFUSED);
            Due.same("at(" + slot + ", 0, 0)", desk.at(slot, 0, 0), REFUSED);
            Due.same("number(" + slot + ", 0)", desk.number(slot, 0), 0);
            Due.no("holds(" + slot + ", 0)", desk.holds(slot, 0));
        }
        Due.same("the draft is empty: token(0, 0)", desk.token(0, 0), 1);
    }

    private static void insertOrdinary() {
        Due.part("promise 2");
        TransletDesk desk = new TransletDesk();
        Due.same("root with a wrong name", desk.insert(0, 0, 6), REFUSED);
        Due.same("root with a wrong name", desk.insert(0, 0, -1), REFUSED);
        Due.same("root, parent and k not looked at", desk.insert(LEAST, GREATEST, 5), 0);
        Due.same("k over the children", desk.insert(0, 1, 0), REFUSED);
        Due.same("the only child", desk.insert(0, 0, 1), 1);
        Due.same("before it", desk.insert(0, 0, 2), 2);
        Due.same("behind all", desk.insert(0, 2, 3), 3);
        Due.same("in the middle", desk.insert(0, 1, 4), 4);
        Due.same("below a child", desk.insert(4, 0, 5), 5);
        Due.children(desk, 0, 2, 4, 1, 3);
        Due.children(desk, 4, 5);
        Due.children(desk, 5);
        Due.same("k = -1", desk.insert(0, -1, 0), REFUSED);
        Due.same("k = 5 of 4", desk.insert(0, 5, 0), REFUSED);
        Due.same("k least", desk.insert(0, LEAST, 0), REFUSED);
        Due.same("k greatest", desk.insert(0, GREATEST, 0), REFUSED);
        Due.same("parent not in use", desk.insert(6, 0, 0), REFUSED);
        Due.same("parent -1", desk.insert(-1, 0, 0), REFUSED);
        Due.same("parent 24", desk.insert(24, 0, 0), REFUSED);
        Due.same("parent least", desk.insert(LEAST, 0, 0), REFUSED);
        Due.same("parent greatest", desk.insert(GREATEST, 0, 0), REFUSED);
        Due.same("name 6", desk.insert(0, 0, 6), REFUSED);
        Due.same("name -1", desk.insert(0, 0, -1), REFUSED);
        Due.children(desk, 0, 2, 4, 1, 3);
        Due.put(desk, 0, Due.STEP, Due.step(9, 4, 0), Due.ROOT, 0);
        Due.set("the nodes with the name 4", desk, 0, 0, 4);
    }

    private static void insertLimits() {
        Due.part("promise 2, 24 nodes");
        TransletDesk desk = new TransletDesk();
        for (int i = 0; i < 24; i++) {
            Due.same("insert " + i, desk.insert(0, 0, 0), i);
        }
        Due.same("the 25th", desk.insert(0, 0, 0), REFUSED);
        Due.same("child(0, 0)", desk.child(0, 0), 23);
        Due.same("child(0, 22)", desk.child(0, 22), 1);
        Due.same("child(0, 23)", desk.child(0, 23), REFUSED);
        TransletDesk chain = new TransletDesk();
        for (int i = 0; i < 24; i++) {
            Due.same("insert in a chain " + i, chain.insert(i - 1, 0, 0), i);
        }
        Due.same("the 25th in a chain", chain.insert(23, 0, 0), REFUSED);
        Due.same("remove(1)", chain.remove(1), 23);
    }

    private static void insertTakesLeastNumber() {
        Due.part("promise 2, the least number");
        TransletDesk desk = Due.tree();
        desk.remove(6);
        desk.remove(3);
        Due.same("the least of 3 and 6", desk.insert(0, 0, 1), 3);
        Due.put(desk, 0, Due.HERE, 0);
        Due.same("the value is 0 again", desk.number(0, 3), 0);
        Due.same("then 6", desk.insert(0, 0, 1), 6);
        Due.same("then 8", desk.insert(0, 0, 1), 8);
        Due.children(desk, 0, 8, 6, 3, 1, 2, 5);
    }

    private static void removeOrdinary() {
        Due.part("promise 3");
        TransletDesk desk = Due.tree();
        Due.same("remove(8)", desk.remove(8), REFUSED);
        Due.same("remove(-1)", desk.remove(-1), REFUSED);
        Due.same("remove(24)", desk.remove(24), REFUSED);
        Due.same("remove greatest", desk.remove(GREATEST), REFUSED);
        Due.same("remove least", desk.remove(LEAST), REFUSED);
        Due.same("with two below", desk.remove(2), 3);
        Due.children(desk, 0, 1, 5);
        Due.same("below it, gone", desk.remove(6), REFUSED);
        Due.same("itself, gone", desk.child(2, 0), REFUSED);
        Due.same("one leaf", desk.remove(4), 1);
        Due.children(desk, 1, 3);
        Due.put(desk, 0, Due.STEP, Due.step(9, Due.ANY, 0), Due.ROOT, 0);
        Due.set("what is left", desk, 0, 0, 0, 1, 3, 5);
        Due.put(desk, 0, Due.STEP, Due.step(6, Due.ANY, 0), Due.HERE, 0);
        Due.set("siblings before", desk, 0, 5, 1);
        Due.put(desk, 0, Due.STEP, Due.step(8, Due.ANY, 0), Due.HERE, 0);
        Due.set("all before", desk, 0, 5, 1, 3);
    }

    private static void removeAll() {
        Due.part("promise 3, the root");
        TransletDesk desk = Due.tree();
        Due.put(desk, 3, Due.STEP, Due.step(9, Due.ANY, 0), Due.ROOT, 0);
        desk.template(1, 3, 0, 3, -1);
        desk.token(0, 0);
        Due.same("remove(0)", desk.remove(0), 8);
        Due.same("remove(0) again", desk.remove(0), REFUSED);
        Due.same("a new root", desk.insert(7, 7, 4), 0);
        Due.children(desk, 0);
        Due.set("the expression is still there", desk, 3, 0, 0);
        Due.yes("the template is still there", desk.drop(1));
        Due.same("the draft is still there", desk.token(0, 0), 2);
    }

    private static void moveOrdinary() {
        Due.part("promise 4");
        TransletDesk desk = Due.tree();
        Due.put(desk, 0, Due.STEP, Due.step(9, Due.ANY, 0), Due.ROOT, 0);
        Due.yes("to another parent", desk.move(1, 2, 1));
        Due.children(desk, 0, 2, 5);
        Due.children(desk, 2, 6, 1, 7);
        Due.children(desk, 1, 4, 3);
        Due.set("all", desk, 0, 0, 0, 2, 6, 1, 4, 3, 7, 5);
        Due.yes("backwards among its siblings", desk.move(7, 2, 0));
        Due.children(desk, 2, 7, 6, 1);
        Due.yes("behind all its siblings", desk.move(7, 2, 2));
        Due.children(desk, 2, 6, 1, 7);
        Due.no("k counted without it", desk.move(7, 2, 3));
        Due.yes("to where it is", desk.move(1, 2, 1));
        Due.children(desk, 2, 6, 1, 7);
        Due.yes("up, behind all", desk.move(3, 0, 2));
        Due.children(desk, 0, 2, 5, 3);
        Due.yes("below a leaf", desk.move(2, 5, 0));
        Due.set("all", desk, 0, 0, 0, 5, 2, 6, 1, 4, 7, 3);
        Due.put(desk, 0, Due.STEP, Due.step(4, Due.ANY, 0), Due.HERE, 0);
        Due.set("above, after the moves", desk, 0, 6, 0, 5, 2);
        Due.put(desk, 0, Due.STEP, Due.step(7, Due.ANY, 0), Due.HERE, 0);
        Due.set("behind, after the moves", desk, 0, 1, 7, 3);
        Due.same("remove(5)", desk.remove(5), 6);
    }

    private static void moveRefused() {
        Due.part("promise 4, refused");
        TransletDesk desk = Due.tree();
        Due.no("the root below itself", desk.move(0, 1, 0));
        Due.no("to itself", desk.move(1, 1, 0));
        Due.no("the root to itself", desk.move(0, 0, 0));
        Due.no("to its child", desk.move(1, 3, 0));
        Due.no("no such node", desk.move(8, 0, 0));
        Due.no("no such parent", desk.move(1, 8, 0));
        Due.no("node -1", desk.move(-1, 0, 0));
        Due.no("node 24", desk.move(24, 0, 0));
        Due.no("parent -1", desk.move(1, -1, 0));
        Due.no("parent greatest", desk.move(1, GREATEST, 0));
        Due.no("k = -1", desk.move(1, 2, -1));
        Due.no("k = 3 of 2", desk.move(1, 2, 3));
        Due.no("k greatest", desk.move(1, 2, GREATEST));
        Due.children(desk, 0, 1, 2, 5);
        Due.children(desk, 1, 4, 3);
        Due.children(desk, 2, 6, 7);
        Due.yes("k = the number of children", desk.move(1, 2, 2));
        Due.children(desk, 2, 6, 7, 1);
    }

    private static void changeOrdinary() {
        Due.part("promise 5");
        TransletDesk desk = Due.tree();
        Due.put(desk, 0, Due.STEP, Due.step(0, 5, 0), Due.HERE, 0);
        Due.put(desk, 1, Due.HERE, 0);
        Due.same("name before", desk.size(0, 4), 0);
        Due.same("value before", desk.number(1, 4), 40);
        Due.yes("change", desk.change(4, 5, LEAST));
        Due.same("name after", desk.size(0, 4), 1);
        Due.same("value after", desk.number(1, 4), LEAST);
        Due.no("name 6", desk.change(4, 6, 1));
        Due.no("name -1", desk.change(4, -1, 1));
        Due.no("no node", desk.change(8, 0, 1));
        Due.no("node -1", desk.change(-1, 0, 1));
        Due.no("node 24", desk.change(24, 0, 1));
        Due.same("name stays", desk.size(0, 4), 1);
        Due.same("value stays", desk.number(1, 4), LEAST);
        Due.yes("name 0", desk.change(4, 0, GREATEST));
        Due.same("value again", desk.number(1, 4), GREATEST);
        Due.same("others stay", desk.number(1, 3), 30);
    }

    private static void childRefused() {
        Due.part("promise 6");
        TransletDesk desk = Due.tree();
        Due.children(desk, 0, 1, 2, 5);
        Due.children(desk, 1, 4, 3);
        Due.children(desk, 5);
        Due.same("k = -1", desk.child(0, -1), REFUSED);
        Due.same("k least", desk.child(0, LEAST), REFUSED);
        Due.same("k greatest", desk.child(0, GREATEST), REFUSED);
        Due.same("no node", desk.child(8, 0), REFUSED);
        Due.same("node -1 is not above the root", desk.child(-1, 0), REFUSED);
        Due.same("node 24", desk.child(24, 0), REFUSED);
    }
}
