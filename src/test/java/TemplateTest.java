/** Promises 13 to 18: template, drop, matches, transform, output, order and limits. */
public final class TemplateTest {
    private static final int REFUSED = TransletDesk.REFUSED, STALLS = TransletDesk.STALLS;
    private static final int LEAST = Integer.MIN_VALUE, GREATEST = Integer.MAX_VALUE;

    private TemplateTest() {
    }

    public static void main(String[] args) {
        templateLimits();
        templateRefusedChangesNothing();
        slotsThatGiveNothing();
        slotsAreLookedAtLater();
        dropped();
        matched();
        matchedFromAbove();
        priorities();
        handledInOrder();
        childrenWithoutTemplate();
        outAsNumber();
        hundredNodes();
        justHundredNodes();
        twelveOthers();
        outputLimits();
        outputAfterRefusalAndStall();
        Due.end();
    }

    /** A desk with the slots 0 HERE, 1 all children, 2 the value, 3 the number 7, 4 a truth. */
    private static TransletDesk desk() {
        TransletDesk d = Due.tree();
        Due.put(d, 0, Due.HERE, 0);
        Due.put(d, 1, Due.STEP, Due.step(1, Due.ANY, 0), Due.HERE, 0);
        Due.put(d, 2, Due.VALUE, 0, Due.HERE, 0);
        Due.put(d, 3, Due.NUM, 7);
        Due.put(d, 4, Due.NOT, 0, Due.NUM, 0);
        return d;
    }

    private static void templateLimits() {
        Due.part("promise 13");
        TransletDesk d = desk();
        Due.no("t = -1", d.template(-1, 0, 0, 0, 0));
        Due.no("t = 6", d.template(6, 0, 0, 0, 0));
        Due.no("t greatest", d.template(GREATEST, 0, 0, 0, 0));
        Due.no("match = -1", d.template(0, -1, 0, 0, 0));
        Due.no("match = 8", d.template(0, 8, 0, 0, 0));
        Due.no("priority = -10", d.template(0, 0, -10, 0, 0));
        Due.no("priority = 10", d.template(0, 0, 10, 0, 0));
        Due.no("priority least", d.template(0, 0, LEAST, 0, 0));
        Due.no("out = -2", d.template(0, 0, 0, -2, 0));
        Due.no("out = 8", d.template(0, 0, 0, 8, 0));
        Due.no("on = -2", d.template(0, 0, 0, 0, -2));
        Due.no("on = 8", d.template(0, 0, 0, 0, 8));
        Due.no("none was made", d.drop(0));
        Due.yes("the least numbers", d.template(0, 0, -9, -1, -1));
        Due.yes("the greatest numbers", d.template(5, 7, 9, 7, 7));
        Due.yes("again", d.template(5, 7, 9, 7, 7));
        Due.yes("drop(0)", d.drop(0));
        Due.yes("drop(5)", d.drop(5));
    }

    private static void templateRefusedChangesNothing() {
        Due.part("promise 13, refused");
        TransletDesk d = desk();
        d.template(2, 0, 0, 2, -1);
        Due.no("on = 8", d.template(2, 1, 1, 3, 8));
        Due.no("out = 8", d.template(2, 1, 1, 8, 1));
        Due.no("priority = 10", d.template(2, 1, 10, 3, 1));
        Due.same("transform(3)", d.transform(3), 1);
        Due.putOut(d, 30);
        Due.yes("another in its place", d.template(2, 0, 0, 3, -1));
        Due.same("transform(3)", d.transform(3), 1);
        Due.putOut(d, 7);
    }

    private static void slotsThatGiveNothing() {
        Due.part("promise 13, slots that give nothing");
        TransletDesk d = desk();
        d.template(0, 0, 0, 6, 1);
        Due.same("out without an expression", d.transform(0), 0);
        d.template(0, 0, 0, -1, 1);
        Due.same("out -1", d.transform(0), 0);
        d.template(0, 0, 0, 3, 6);
        Due.same("on without an expression", d.transform(0), 1);
        d.template(0, 0, 0, 3, 3);
        Due.same("on with a number", d.transform(0), 1);
        d.template(0, 0, 0, 3, 4);
        Due.same("on with a truth", d.transform(0), 1);
        d.template(0, 0, 0, 3, -1);
        Due.same("on -1", d.transform(0), 1);
        d.template(0, 0, 0, 3, 1);
        Due.same("on with a set", d.transform(0), 8);
        d.template(0, 6, 0, 3, -1);
        Due.same("match without an expression", d.transform(0), 0);
        d.template(0, 3, 0, 3, -1);
        Due.same("match with a number", d.transform(0), 0);
        d.template(0, 4, 0, 3, -1);
        Due.same("match with a truth", d.transform(0), 0);
    }

    private static void slotsAreLookedAtLater() {
        Due.part("promise 13, from now on");
        TransletDesk d = desk();
        d.template(0, 5, 0, 6, 7);
        Due.no("no match yet", d.matches(0, 3));
        Due.put(d, 5, Due.HERE, 0);
        Due.yes("a match then", d.matches(0, 3));
        Due.same("no out yet", d.transform(1), 0);
        Due.put(d, 6, Due.NUM, 3);
        Due.same("an out then", d.transform(1), 1);
        Due.put(d, 7, Due.STEP, Due.step(1, Due.ANY, 0), Due.HERE, 0);
        Due.same("an on then", d.transform(1), 3);
        Due.put(d, 6, Due.NUM, 4);
        Due.same("another out", d.transform(1), 3);
        Due.putOut(d, 4, 4, 4);
    }

    private static void dropped() {
        Due.part("promise 14");
        TransletDesk d = desk();
        Due.no("drop(-1)", d.drop(-1));
        Due.no("drop(6)", d.drop(6));
        Due.no("drop greatest", d.drop(GREATEST));
        Due.no("drop least", d.drop(LEAST));
        Due.no("none", d.drop(3));
        d.template(3, 0, 9, 3, -1);
        d.template(2, 0, 0, 2, -1);
        Due.yes("drop(3)", d.drop(3));
        Due.no("drop(3) again", d.drop(3));
        Due.no("it matches no more", d.matches(3, 1));
        Due.same("transform(4)", d.transform(4), 1);
        Due.putOut(d, 40);
        Due.yes("drop(2)", d.drop(2));
        Due.same("transform(4)", d.transform(4), 0);
    }

    private static void matched() {
        Due.part("promise 15");
        TransletDesk d = desk();
        d.template(0, 0, 0, -1, -1);
        Due.yes("HERE", d.matches(0, 5));
        Due.no("no template", d.matches(1, 5));
        Due.no("t = -1", d.matches(-1, 5));
        Due.no("t = 6", d.matches(6, 5));
        Due.no("no node", d.matches(0, 8));
        Due.no("node -1", d.matches(0, -1));
        Due.no("node 24", d.matches(0, 24));
        d.template(0, 3, 0, -1, -1);
        Due.no("a number", d.matches(0, 0));
        d.template(0, 4, 0, -1, -1);
        Due.no("a truth", d.matches(0, 0));
        d.template(0, 7, 0, -1, -1);
        Due.no("no expression", d.matches(0, 0));
    }

    private static void matchedFromAbove() {
        Due.part("promise 15, from above");
        TransletDesk d = desk();
        d.template(0, 1, 0, -1, -1);
        Due.no("the root is no child", d.matches(0, 0));
        Due.yes("a child of the root", d.matches(0, 2));
        Due.yes("a child of a child", d.matches(0, 7));
        Due.put(d, 5, Due.STEP, Due.step(2, Due.ANY, 0), Due.HERE, 0);
        d.template(1, 5, 0, -1, -1);
        Due.no("the parent, worked out below only", d.matches(1, 2));
        Due.put(d, 5, Due.STEP, Due.step(5, Due.ANY, 0), Due.HERE, 0);
        Due.no("a sibling, worked out beside only", d.matches(1, 2));
        Due.put(d, 5, Due.STEP, Due.step(1, 2, 1), Due.HERE, 0, Due.NUM, 1);
        Due.yes("the first child with the name 2", d.matches(1, 2));
        Due.no("the second child with the name 2", d.matches(1, 5));
        Due.put(d, 5, Due.STEP, Due.step(1, Due.ANY, 0), Due.STEP, Due.step(0, 0, 0), Due.ROOT, 0);
        Due.yes("below the root", d.matches(1, 5));
        Due.no("not right below the root", d.matches(1, 6));
    }

    private static void priorities() {
        Due.part("promise 16, which template");
        TransletDesk d = desk();
        for (int t = 0; t < 6; t++) {
            Due.put(d, t, Due.NUM, t);
        }
        Due.put(d, 7, Due.HERE, 0);
        Due.put(d, 6, Due.STEP, Due.step(0, 1, 0), Due.HERE, 0);
        d.template(1, 7, -9, 1, -1);
        checkOnly(d, 5, 1);
        d.template(0, 7, -9, 0, -1);
        checkOnly(d, 5, 1);
        d.template(0, 7, -8, 0, -1);
        checkOnly(d, 5, 0);
        d.template(3, 7, -8, 3, -1);
        checkOnly(d, 5, 3);
        d.template(4, 6, 9, 4, -1);
        checkOnly(d, 5, 3);
        checkOnly(d, 4, 4);
        d.template(5, 7, 8, 5, -1);
        checkOnly(d, 5, 5);
        checkOnly(d, 4, 4);
        d.template(2, 6, 9, 2, -1);
        checkOnly(d, 4, 4);
    }

    private static void checkOnly(TransletDesk d, int node, int number) {
        Due.same("transform(" + node + ")", d.transform(node), 1);
        Due.same("output(0) of " + node, d.output(0), number);
    }

    private static void handledInOrder() {
        Due.part("promise 16, order");
        TransletDesk d = desk();
        d.template(0, 0, 0, 2, 1);
        Due.same("each node before its children", d.transform(0), 8);
        Due.putOut(d, 0, 10, 40, 30, 20, 60, 70, 50);
        Due.same("only below 2", d.transform(2), 3);
        Due.putOut(d, 20, 60, 70);
        Due.put(d, 5, Due.STEP, Due.step(6, Due.ANY, 0), Due.HERE, 0);
        d.template(0, 0, 0, 2, 5);
        Due.same("siblings before, in document order", d.transform(5), 4);
        Due.putOut(d, 50, 10, 20, 10);
        Due.put(d, 5, Due.STEP, Due.step(4, Due.ANY, 0), Due.HERE, 0);
        Due.same("all above, each with all above it", d.transform(7), 4);
        Due.putOut(d, 70, 0, 20, 0);
    }

    private static void childrenWithoutTemplate() {
        Due.part("promise 16, no template");
        TransletDesk d = desk();
        Due.same("no templates", d.transform(0), 0);
        Due.put(d, 5, Due.STEP, Due.step(0, 0, 0), Due.HERE, 0);
        d.template(0, 5, 0, 2, -1);
        d.change(0, 1, 5);
        Due.same("the children of those that match none", d.transform(0), 2);
        Due.putOut(d, 30, 60);
        d.change(1, 0, 11);
        Due.same("not below those that match", d.transform(0), 2);
        Due.putOut(d, 11, 60);
        Due.same("transform(-1)", d.transform(-1), REFUSED);
        Due.same("transform(8)", d.transform(8), REFUSED);
        Due.same("transform(24)", d.transform(24), REFUSED);
        Due.same("transform greatest", d.transform(GREATEST), REFUSED);
    }

    private static void outAsNumber() {
        Due.part("promise 16, what is put out");
        TransletDesk d = desk();
        d.template(0, 0, 0, 1, -1);
        Due.same("a set: VALUE", d.transform(1), 1);
        Due.putOut(d, 40);
        Due.same("an empty set: 0, put out all the same", d.transform(3), 1);
        Due.putOut(d, 0);
        d.template(0, 0, 0, 4, -1);
        Due.same("a truth", d.transform(1), 1);
        Due.putOut(d, 1);
        Due.put(d, 5, Due.ADD, 0, Due.POSITION, 0, Due.LAST, 0);
        d.template(0, 0, 0, 5, 1);
        Due.same("POSITION and LAST are 1", d.transform(2), 3);
        Due.putOut(d, 2, 2, 2);
    }

    private static TransletDesk flat(int children) {
        TransletDesk d = new TransletDesk();
        d.insert(0, 0, 0);
        for (int i = 0; i < children; i++) {
            d.insert(0, 0, 1);
        }
        Due.put(d, 0, Due.HERE, 0);
        Due.put(d, 1, Due.NUM, 6);
        return d;
    }

    private static void hundredNodes() {
        Due.part("promise 16, more than 100 nodes");
        TransletDesk d = flat(13);
        // From child i all siblings before it are handled, so 2 to the power of i nodes are begun.
        Due.put(d, 2, Due.STEP, Due.step(6, Due.ANY, 0), Due.HERE, 0);
        d.template(0, 0, 0, 1, 2);
        int first = d.child(0, 0);
        int seventh = d.child(0, 6);
        int eighth = d.child(0, 7);
        Due.same("1 node", d.transform(first), 1);
        Due.same("64 nodes", d.transform(seventh), 64);
        Due.same("output(63)", d.output(63), 6);
        Due.same("output(64)", d.output(64), 0);
        Due.same("128 nodes", d.transform(eighth), STALLS);
    }

    /** The root handles 8 children with the name 1, each handles 10 more, and 11 or 12 others. */
    private static void justHundredNodes() {
        Due.part("promise 16, just 100 nodes");
        TransletDesk d = new TransletDesk();
        d.insert(0, 0, 0);
        for (int i = 0; i < 20; i++) {
            d.insert(0, 0, i < 8 ? 1 : 2);
        }
        Due.put(d, 0, Due.HERE, 0);
        Due.put(d, 1, Due.NUM, 6);
        Due.put(d, 2, Due.STEP, Due.step(1, Due.ANY, 0), Due.HERE, 0);
        Due.put(d, 3, Due.STEP, Due.step(0, 1, 0), Due.HERE, 0);
        Due.put(d, 4, Due.STEP, Due.step(1, 2, 1), Due.ROOT, 0,
            Due.LESS, 0, Due.POSITION, 0, Due.NUM, 11);
        d.template(0, 0, 0, 1, 2);
        d.template(1, 3, 1, 1, 4);
        Due.same("1 + 20 + 8 * 10 nodes", d.transform(0), STALLS);
        Due.same("nothing is kept", d.output(0), 0);
        d.remove(d.child(0, 0));
        Due.same("1 + 19 + 8 * 10 nodes", d.transform(0), 100);
        Due.same("output(99)", d.output(99), 6);
        Due.same("output(100)", d.output(100), 0);
        d.template(0, 0, 0, -1, 2);
        d.template(1, 3, 1, -1, 4);
        d.insert(0, 0, 2);
        Due.same("nodes count, not what is put out", d.transform(0), STALLS);
    }

    private static void twelveOthers() {
        Due.part("promise 16, within twelve others");
        TransletDesk d = new TransletDesk();
        for (int i = 0; i < 12; i++) {
            d.insert(i - 1, 0, 0);
        }
        Due.put(d, 0, Due.STEP, Due.step(0, 1, 0), Due.HERE, 0);
        Due.put(d, 1, Due.NUM, 9);
        d.template(0, 0, 0, 1, -1);
        d.change(11, 1, 0);
        Due.same("within eleven", d.transform(0), 1);
        d.insert(10, 1, 1);
        Due.same("two within eleven", d.transform(0), 2);
        d.change(11, 0, 0);
        d.insert(11, 0, 1);
        Due.same("within twelve", d.transform(0), STALLS);
        Due.same("from one further down", d.transform(1), 2);
        d.change(11, 1, 0);
        Due.same("not begun behind a template", d.transform(0), 2);
    }

    private static void outputLimits() {
        Due.part("promise 17");
        TransletDesk d = desk();
        Due.same("none yet", d.output(0), 0);
        d.template(0, 0, 0, 3, 1);
        Due.same("transform(1)", d.transform(1), 3);
        Due.putOut(d, 7, 7, 7);
        Due.same("output(-1)", d.output(-1), 0);
        Due.same("output least", d.output(LEAST), 0);
        Due.same("output greatest", d.output(GREATEST), 0);
        Due.same("output(100)", d.output(100), 0);
        Due.same("a shorter one", d.transform(3), 1);
        Due.putOut(d, 7);
        Due.same("output(2) is gone", d.output(2), 0);
        d.drop(0);
        d.remove(0);
        Due.same("the tree and the templates may go", d.output(0), 7);
    }

    private static void outputAfterRefusalAndStall() {
        Due.part("promise 18");
        TransletDesk d = desk();
        d.template(0, 0, 0, 3, 1);
        Due.same("transform(1)", d.transform(1), 3);
        Due.same("transform(9)", d.transform(9), REFUSED);
        Due.putOut(d, 7, 7, 7);
        d.template(0, 0, 0, 3, 0);
        Due.same("it handles itself", d.transform(1), STALLS);
        for (int k = 0; k < 100; k++) {
            Due.same("output(" + k + ")", d.output(k), 0);
        }
        Due.same("transform(-1)", d.transform(-1), REFUSED);
        Due.same("still nothing", d.output(0), 0);
        d.template(0, 0, 0, 3, -1);
        Due.same("transform(1)", d.transform(1), 1);
        Due.putOut(d, 7);
    }
}
