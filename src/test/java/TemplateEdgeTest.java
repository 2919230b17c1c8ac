/**
 * The edges of templates and transforms: a test for each sentence of 'Terms' on templates and of
 * promises 13 to 18 that names one. Each part is headed by the sentence's words.
 */
public final class TemplateEdgeTest {
    private static final int REFUSED = TransletDesk.REFUSED, STALLS = TransletDesk.STALLS;
    private static final int LEAST = Integer.MIN_VALUE, GREATEST = Integer.MAX_VALUE;

    private static final int HERE = Due.HERE, ROOT = Due.ROOT, STEP = Due.STEP, NUM = Due.NUM;
    private static final int CHILDREN = Due.step(1, Due.ANY, 0);

    /** None of these is a template, a slot, a node of the tree of the tests. */
    private static final int[] NO_TEMPLATES = {-1, -2, 6, 7, 8, 32, LEAST, GREATEST};
    private static final int[] NO_SLOTS = {-2, 8, 9, 16, 32, LEAST, GREATEST};
    private static final int[] NO_NODES = {-1, 8, 23, 24, 32, -32, LEAST, GREATEST};

    private TemplateEdgeTest() {
    }

    public static void main(String[] args) {
        noneAtFirst();
        matchIsNoSet();
        matchedFromItOrAbove();
        matchedFromFarAbove();
        greatestPriority();
        greatestNumberOfSeveral();
        priorityOfThoseThatMatch();
        handledInDocumentOrder();
        outAsNumber();
        matchesNone();
        numbersOfTemplates();
        matchSlots();
        priorities();
        outAndOnSlots();
        refusedTemplateChangesNothing();
        replacedTemplate();
        outWithoutExpression();
        onWithoutSet();
        dropOfNone();
        matchesOfNone();
        transformOfNone();
        transformOfNothing();
        hundredBegun();
        hundredBegunWithoutOutput();
        hundredBegunAnew();
        withinElevenOthers();
        withinElevenWithoutTemplates();
        withinCountsThoseAboveAlone();
        nothingIsKept();
        outputOfNone();
        outputOfLatest();
        outputStaysWithRefused();
        outputIsGoneWithStalls();
        outputOfHundred();
        lastCall();
        Due.end();
    }

    /** A desk with the slots 0 HERE, 1 children, 2 the value, 3 a number, 4 a truth, 5 .. 7 none. */
    private static TransletDesk desk() {
        TransletDesk d = Due.tree();
        fill(d);
        return d;
    }

    private static void fill(TransletDesk d) {
        Due.put(d, 0, HERE, 0);
        Due.put(d, 1, STEP, CHILDREN, HERE, 0);
        Due.put(d, 2, Due.VALUE, 0, HERE, 0);
        Due.put(d, 3, NUM, 7);
        Due.put(d, 4, Due.NOT, 0, NUM, 0);
    }

    private static void onlyOne(TransletDesk d, int node, int number) {
        Due.same("transform(" + node + ")", d.transform(node), 1);
        Due.putOut(d, number);
    }

    // ---- Terms ----

    private static void noneAtFirst() {
        Due.part("Terms: templates 0 .. 5, none at first");
        TransletDesk d = desk();
        for (int t = 0; t < 6; t++) {
            Due.no("matches(" + t + ", 0)", d.matches(t, 0));
            Due.no("drop(" + t + ")", d.drop(t));
        }
        Due.same("transform(0)", d.transform(0), 0);
        for (int t = 0; t < 6; t++) {
            Due.yes("template(" + t + ")", d.template(t, 0, 0, 3, -1));
            Due.yes("matches(" + t + ", 0)", d.matches(t, 0));
        }
        onlyOne(d, 0, 7);
    }

    private static void matchIsNoSet() {
        Due.part("Terms: a node matches if the match is a set");
        TransletDesk d = desk();
        int[] noSets = {2, 3, 4, 5, 6, 7};
        for (int slot : noSets) {
            d.template(0, slot, 9, 3, -1);
            for (int node = 0; node < 8; node++) {
                Due.no("slot " + slot + " at " + node, d.matches(0, node));
            }
            Due.same("nothing is put out", d.transform(0), 0);
        }
        d.template(1, 0, -9, 2, -1);
        Due.same("a template without a set is not taken", d.transform(7), 1);
        Due.putOut(d, 70);
    }

    private static void matchedFromItOrAbove() {
        Due.part("Terms: for some node that is it or above it");
        // For each axis: whether 2, with 0 above it and 6, 7 below it, is matched.
        boolean[] matched = {true, true, false, true, false, false, false, false, false, true, true};
        for (int axis = 0; axis <= 10; axis++) {
            TransletDesk d = Due.tree();
            Due.put(d, 0, STEP, Due.step(axis, Due.ANY, 0), HERE, 0);
            d.template(0, 0, 0, -1, -1);
            Due.same("axis " + axis, d.matches(0, 2) ? 1 : 0, matched[axis] ? 1 : 0);
            boolean root = axis == 0 || axis == 9 || axis == 10;
            Due.same("axis " + axis + ", the root", d.matches(0, 0) ? 1 : 0, root ? 1 : 0);
        }
        TransletDesk d = Due.tree();
        Due.put(d, 0, ROOT, 0);
        d.template(0, 0, 0, -1, -1);
        Due.yes("ROOT: the root", d.matches(0, 0));
        Due.no("ROOT: no other", d.matches(0, 1));
        Due.put(d, 0, STEP, Due.step(7, Due.ANY, 0), STEP, CHILDREN, HERE, 0);
        Due.yes("behind a child of the one above", d.matches(0, 2));
        Due.no("the first child is behind none", d.matches(0, 1));
    }

    private static void matchedFromFarAbove() {
        Due.part("Terms: it is in the set worked out there, however far above");
        TransletDesk d = Due.chain(24);
        d.change(0, 1, 0);
        Due.put(d, 0, STEP, Due.step(3, Due.ANY, 1), STEP, Due.step(0, 1, 0), HERE, 0, NUM, 23);
        d.template(0, 0, 0, -1, -1);
        Due.yes("the 23rd below the root", d.matches(0, 23));
        Due.no("the 22nd below the root", d.matches(0, 22));
        d.change(1, 1, 0);
        d.change(0, 0, 0);
        Due.no("there are but 22 below 1", d.matches(0, 23));
        Due.put(d, 0, STEP, Due.step(3, Due.ANY, 1), STEP, Due.step(0, 1, 0), HERE, 0, NUM, 5);
        d.change(10, 1, 0);
        Due.yes("the 5th below 10", d.matches(0, 15));
        Due.yes("the 5th below 1", d.matches(0, 6));
        Due.no("the 4th below 10", d.matches(0, 14));
        Due.no("the 6th below 10", d.matches(0, 16));
    }

    private static void greatestPriority() {
        Due.part("Terms: that with the greatest priority");
        for (int best = 0; best < 6; best++) {
            TransletDesk d = desk();
            Due.put(d, 5, NUM, 100 + best);
            for (int t = 0; t < 6; t++) {
                d.template(t, 0, t == best ? 9 : 8 - t, t == best ? 5 : 3, -1);
            }
            onlyOne(d, 3, 100 + best);
            d.template(best, 0, -9, 5, -1);
            onlyOne(d, 3, 7);
        }
        TransletDesk d = desk();
        d.template(0, 0, 0, 2, -1);
        d.template(5, 0, -1, 3, -1);
        onlyOne(d, 3, 30);
        d.template(0, 0, -1, 2, -1);
        onlyOne(d, 3, 7);
        d.template(0, 0, -8, 2, -1);
        d.template(5, 0, -9, 3, -1);
        onlyOne(d, 3, 30);
    }

    private static void greatestNumberOfSeveral() {
        Due.part("Terms: of several that with the greatest number");
        int[] priorities = {-9, 0, 9};
        for (int priority : priorities) {
            TransletDesk d = desk();
            for (int t = 5; t > 0; t--) {
                d.template(t, 0, priority, t == 5 ? 2 : 3, -1);
            }
            d.template(0, 0, priority, 3, -1);
            onlyOne(d, 6, 60);
            d.drop(5);
            d.template(4, 0, priority, 2, -1);
            onlyOne(d, 6, 60);
            d.drop(4);
            onlyOne(d, 6, 7);
        }
    }

    private static void priorityOfThoseThatMatch() {
        Due.part("Terms: of the templates that it matches");
        TransletDesk d = desk();
        Due.put(d, 5, STEP, Due.step(0, 2, 0), HERE, 0);
        d.template(5, 5, 9, 3, -1);
        d.template(0, 0, -9, 2, -1);
        onlyOne(d, 5, 7);
        onlyOne(d, 3, 30);
        d.template(1, 6, 9, 3, -1);
        onlyOne(d, 3, 30);
        d.drop(5);
        onlyOne(d, 5, 50);
    }

    private static void handledInDocumentOrder() {
        Due.part("Terms: all nodes of the set .. are handled in document order");
        TransletDesk d = desk();
        Due.put(d, 5, STEP, Due.step(0, 2, 0), HERE, 0);
        Due.put(d, 6, STEP, Due.step(8, Due.ANY, 0), HERE, 0);
        d.template(0, 0, 0, 2, -1);
        d.template(1, 5, 1, 2, 6);
        d.change(2, 0, 20);
        Due.same("5, then all before it", d.transform(5), 7);
        Due.putOut(d, 50, 10, 40, 30, 20, 60, 70);
        d.template(0, 0, 0, 2, 1);
        Due.same("what is put out comes before those handled", d.transform(0), 18);
        Due.putOut(d, 0, 10, 40, 30, 20, 60, 70, 50, 10, 40, 30, 40, 30, 20, 60, 70, 60, 70);
    }

    private static void outAsNumber() {
        Due.part("Terms: what its out slot gives at the node, as a number, is put out");
        TransletDesk d = desk();
        d.template(0, 0, 0, 1, -1);
        onlyOne(d, 1, 40);
        onlyOne(d, 5, 0);
        d.template(0, 0, 0, 4, -1);
        onlyOne(d, 5, 1);
        Due.put(d, 5, Due.NOT, 0, NUM, 7);
        d.template(0, 0, 0, 5, -1);
        onlyOne(d, 5, 0);
        Due.put(d, 5, Due.ADD, 0, Due.MUL, 0, NUM, 10, Due.POSITION, 0, Due.LAST, 0);
        d.template(0, 0, 0, 5, 1);
        Due.same("POSITION and LAST are both 1", d.transform(1), 3);
        Due.putOut(d, 11, 11, 11);
    }

    private static void matchesNone() {
        Due.part("Terms: if it matches none, its children are handled");
        TransletDesk d = desk();
        Due.put(d, 5, STEP, Due.step(0, 1, 0), HERE, 0);
        d.template(0, 5, 0, 2, -1);
        Due.same("1 below 0, 7 below 2; 4 below 1 is not handled", d.transform(0), 2);
        Due.putOut(d, 10, 70);
        Due.same("one without children", d.transform(5), 0);
        Due.putOut(d);
        d.move(7, 2, 0);
        d.move(2, 0, 0);
        Due.same("the children in their order", d.transform(0), 2);
        Due.putOut(d, 70, 10);
    }

    // ---- promise 13 ----

    private static void numbersOfTemplates() {
        Due.part("promise 13: false if t is not as said (0 .. 5)");
        TransletDesk d = desk();
        for (int t : NO_TEMPLATES) {
            Due.no("template(" + t + ", ..)", d.template(t, 0, 0, 3, -1));
        }
        for (int t = 0; t < 6; t++) {
            Due.no("none was made: " + t, d.drop(t));
        }
        Due.same("nothing is put out", d.transform(0), 0);
        Due.yes("template(0, ..)", d.template(0, 0, 0, 3, -1));
        Due.yes("template(5, ..)", d.template(5, 0, 0, 3, -1));
    }

    private static void matchSlots() {
        Due.part("promise 13: false if match is not as said (0 .. 7)");
        TransletDesk d = desk();
        Due.no("match -1", d.template(0, -1, 0, 3, -1));
        for (int slot : NO_SLOTS) {
            Due.no("match " + slot, d.template(0, slot, 0, 3, -1));
        }
        Due.no("none was made", d.drop(0));
        for (int slot = 0; slot < 8; slot++) {
            Due.put(d, slot, STEP, CHILDREN, HERE, 0);
            Due.yes("match " + slot, d.template(0, slot, 0, -1, -1));
            Due.yes("it matches", d.matches(0, 1));
            Due.no("it does not match the root", d.matches(0, 0));
            Due.put(d, slot, HERE, 0);
            Due.yes("slot " + slot + " is looked at", d.matches(0, 0));
            Due.put(d, slot, NUM, 0);
        }
    }

    private static void priorities() {
        Due.part("promise 13: false if priority is not as said (-9 .. 9)");
        TransletDesk d = desk();
        int[] odd = {-10, -11, 10, 11, 32, LEAST, GREATEST};
        for (int priority : odd) {
            Due.no("priority " + priority, d.template(0, 0, priority, 3, -1));
        }
        Due.no("none was made", d.drop(0));
        for (int priority = -9; priority <= 9; priority++) {
            Due.yes("priority " + priority, d.template(0, 0, priority, 3, -1));
        }
        for (int priority = -9; priority < 9; priority++) {
            d.template(0, 0, priority + 1, 2, -1);
            d.template(1, 0, priority, 3, -1);
            onlyOne(d, 1, 10);
        }
    }

    private static void outAndOnSlots() {
        Due.part("promise 13: false if out or on is not as said (0 .. 7, also -1)");
        TransletDesk d = desk();
        for (int slot : NO_SLOTS) {
            Due.no("out " + slot, d.template(0, 0, 0, slot, -1));
            Due.no("on " + slot, d.template(0, 0, 0, 3, slot));
        }
        Due.no("none was made", d.drop(0));
        for (int slot = -1; slot < 8; slot++) {
            Due.yes("out " + slot, d.template(0, 0, 0, slot, -1));
            Due.yes("on " + slot, d.template(0, 0, 0, -1, slot));
        }
        for (int slot = 1; slot < 8; slot++) {
            Due.put(d, slot, NUM, 40 + slot);
            d.template(0, 0, 0, slot, -1);
            onlyOne(d, 1, 40 + slot);
        }
        for (int slot = 1; slot < 7; slot++) {
            Due.put(d, slot, STEP, CHILDREN, HERE, 0);
            d.template(0, 0, 0, 7, slot);
            Due.same("on " + slot, d.transform(1), 3);
            Due.put(d, slot, NUM, 0);
        }
    }

    private static void refusedTemplateChangesNothing() {
        Due.part("promise 13: false, and nothing changes");
        TransletDesk d = desk();
        for (int t = 0; t < 6; t++) {
            d.template(t, 0, t == 2 ? 0 : -1, t == 2 ? 2 : 3, t == 2 ? 1 : -1);
        }
        Due.no("no t", d.template(6, 1, 9, 3, -1));
        Due.no("no t", d.template(-1, 1, 9, 3, -1));
        Due.no("no match", d.template(2, 8, 9, 3, -1));
        Due.no("no match", d.template(2, -1, 9, 3, -1));
        Due.no("no priority", d.template(2, 1, 10, 3, -1));
        Due.no("no priority", d.template(2, 1, -10, 3, -1));
        Due.no("no out", d.template(2, 1, -9, 8, -1));
        Due.no("no out", d.template(2, 1, -9, -2, -1));
        Due.no("no on", d.template(2, 1, -9, 3, 8));
        Due.no("no on", d.template(2, 1, -9, 3, -2));
        Due.same("template 2 as it was", d.transform(0), 8);
        Due.putOut(d, 0, 10, 40, 30, 20, 60, 70, 50);
        Due.yes("it matches the root", d.matches(2, 0));
    }

    private static void replacedTemplate() {
        Due.part("promise 13: template t from now on");
        TransletDesk d = desk();
        d.template(3, 0, 5, 2, 1);
        d.template(4, 0, 4, 4, -1);
        Due.same("as first made", d.transform(1), 3);
        Due.yes("another priority", d.template(3, 0, 3, 2, 1));
        onlyOne(d, 1, 1);
        Due.yes("another out and on", d.template(3, 0, 5, 3, -1));
        onlyOne(d, 1, 7);
        Due.yes("another match", d.template(3, 1, 5, 3, -1));
        Due.no("it matches the root no more", d.matches(3, 0));
        onlyOne(d, 0, 1);
        onlyOne(d, 1, 7);
        Due.yes("drop(3)", d.drop(3));
        Due.no("there was but one", d.drop(3));
    }

    private static void outWithoutExpression() {
        Due.part("promise 13: slots without an expression: nothing is put out");
        TransletDesk d = desk();
        int[] slots = {-1, 5, 6, 7};
        for (int out : slots) {
            d.template(0, 0, 0, out, 1);
            Due.same("out " + out, d.transform(0), 0);
            Due.putOut(d);
        }
        Due.put(d, 6, STEP, Due.step(0, 1, 0), HERE, 0);
        d.template(0, 0, 0, 7, 1);
        d.template(1, 6, 1, 3, 1);
        Due.same("those of other templates are put out", d.transform(0), 3);
        Due.putOut(d, 7, 7, 7);
        d.template(0, 0, 0, 1, -1);
        onlyOne(d, 5, 0);
    }

    private static void onWithoutSet() {
        Due.part("promise 13: slots without an expression (on: without a set): no nodes");
        TransletDesk d = desk();
        int[] slots = {-1, 2, 3, 4, 5, 6, 7};
        for (int on : slots) {
            d.template(0, 0, 0, 3, on);
            onlyOne(d, 0, 7);
        }
        Due.put(d, 5, STEP, Due.step(1, 5, 0), HERE, 0);
        d.template(0, 0, 0, 3, 5);
        onlyOne(d, 0, 7);
        d.template(0, 0, 0, 3, 1);
        Due.same("a set", d.transform(0), 8);
        Due.put(d, 1, NUM, 1);
        onlyOne(d, 0, 7);
    }

    // ---- promises 14 and 15 ----

    private static void dropOfNone() {
        Due.part("promise 14: takes template t away: true; false if there is none");
        TransletDesk d = desk();
        for (int t = 0; t < 6; t++) {
            d.template(t, 0, t, 3, -1);
        }
        for (int t : NO_TEMPLATES) {
            Due.no("drop(" + t + ")", d.drop(t));
        }
        for (int t = 0; t < 6; t++) {
            Due.yes("they are all there: " + t, d.matches(t, 0));
        }
        for (int t = 5; t >= 0; t--) {
            onlyOne(d, 0, 7);
            Due.yes("drop(" + t + ")", d.drop(t));
            Due.no("drop(" + t + ") again", d.drop(t));
            Due.no("matches(" + t + ", 0)", d.matches(t, 0));
        }
        Due.same("none is left", d.transform(0), 0);
        Due.yes("one made again", d.template(5, 0, 0, 3, -1));
        Due.yes("drop(5)", d.drop(5));
    }

    private static void matchesOfNone() {
        Due.part("promise 15: false if one is none");
        TransletDesk d = desk();
        d.template(0, 0, 0, -1, -1);
        d.template(5, 0, 0, -1, -1);
        for (int node = 0; node < 8; node++) {
            Due.yes("matches(0, " + node + ")", d.matches(0, node));
            Due.yes("matches(5, " + node + ")", d.matches(5, node));
            Due.no("matches(1, " + node + ")", d.matches(1, node));
        }
        for (int t : NO_TEMPLATES) {
            Due.no("matches(" + t + ", 0)", d.matches(t, 0));
        }
        for (int node : NO_NODES) {
            Due.no("matches(0, " + node + ")", d.matches(0, node));
            Due.no("matches(1, " + node + ")", d.matches(1, node));
        }
        d.remove(2);
        Due.no("a node that is gone", d.matches(0, 2));
        Due.no("a node that is gone with it", d.matches(0, 7));
        d.remove(0);
        Due.no("the root is gone", d.matches(0, 0));
    }

    // ---- promise 16 ----

    private static void transformOfNone() {
        Due.part("promise 16: REFUSED if there is none");
        TransletDesk d = desk();
        d.template(0, 0, 0, 3, -1);
        for (int node : NO_NODES) {
            Due.same("transform(" + node + ")", d.transform(node), REFUSED);
        }
        d.remove(2);
        Due.same("a node that is gone", d.transform(2), REFUSED);
        Due.same("a node that is gone with it", d.transform(6), REFUSED);
        d.remove(0);
        Due.same("the root is gone", d.transform(0), REFUSED);
        Due.same("nothing was put out", d.output(0), 0);
    }

    private static void transformOfNothing() {
        Due.part("promise 16: how many numbers were put out, none");
        TransletDesk d = Due.flat(23);
        Due.same("24 nodes, no templates", d.transform(0), 0);
        Due.same("a leaf, no templates", d.transform(23), 0);
        Due.put(d, 0, STEP, Due.step(0, 1, 0), HERE, 0);
        d.template(0, 0, 0, 0, 0);
        Due.same("a template that matches no node", d.transform(0), 0);
        Due.putOut(d);
    }

    /**
     * The root handles its children; those with the name 1 handle each all that have the name 2,
     * these and those with the name 0 handle none: 1 + ones + twos + zeros + ones * twos nodes.
     */
    private static TransletDesk square(int ones, int twos, int zeros) {
        TransletDesk d = new TransletDesk();
        d.insert(0, 0, 3);
        for (int i = 0; i < ones + twos + zeros; i++) {
            int name = i < ones ? 1 : i < ones + twos ? 2 : 0;
            d.insert(0, i, name);
            d.change(i + 1, name, i + 1);
        }
        fill(d);
        Due.put(d, 5, STEP, Due.step(0, 1, 0), HERE, 0);
        Due.put(d, 6, STEP, Due.step(1, 2, 0), ROOT, 0);
        d.template(0, 0, 0, 2, 1);
        d.template(1, 5, 1, 2, 6);
        return d;
    }

    private static void hundredBegun() {
        Due.part("promise 16: STALLS as soon as more than 100 nodes have been begun to handle");
        int[][] cases = {{9, 9, 0}, {9, 9, 1}, {8, 10, 0}, {8, 10, 1}, {8, 10, 2}, {7, 11, 4},
            {6, 13, 2}, {6, 13, 3}, {10, 8, 1}, {10, 8, 2}, {1, 22, 0}, {11, 12, 0}};
        for (int[] each : cases) {
            TransletDesk d = square(each[0], each[1], each[2]);
            int begun = 1 + each[0] + each[1] + each[2] + each[0] * each[1];
            Due.same(begun + " nodes", d.transform(0), begun <= 100 ? begun : STALLS);
            Due.same("the last", d.output(begun - 1),
                begun <= 100 ? each[0] + each[1] + each[2] : 0);
            Due.same("the second", d.output(1), begun <= 100 ? 1 : 0);
        }
    }

    private static void hundredBegunWithoutOutput() {
        Due.part("promise 16: nodes begun count, not the numbers put out");
        int[] zeros = {0, 1, 2};
        for (int zero : zeros) {
            TransletDesk d = square(8, 10, zero);
            d.template(0, 0, 0, -1, 1);
            Due.same("99 + " + zero + " nodes, 8 put out", d.transform(0), zero < 2 ? 8 : STALLS);
            d.template(1, 5, 1, -1, 6);
            Due.same("99 + " + zero + " nodes, none put out", d.transform(0), zero < 2 ? 0 : STALLS);
            d.drop(0);
            Due.same("also those that match none", d.transform(0), zero < 2 ? 0 : STALLS);
        }
    }

    private static void hundredBegunAnew() {
        Due.part("promise 16: each transform counts anew");
        TransletDesk d = square(8, 10, 1);
        for (int i = 0; i < 5; i++) {
            Due.same("100 nodes", d.transform(0), 100);
            Due.same("11 nodes", d.transform(1), 11);
        }
        d.insert(0, 0, 0);
        Due.same("101 nodes", d.transform(0), STALLS);
        Due.same("11 nodes after STALLS", d.transform(1), 11);
        Due.same("one node after STALLS", d.transform(20), 1);
    }

    private static void withinElevenOthers() {
        Due.part("promise 16: STALLS as soon as one is begun within twelve others");
        for (int nodes = 1; nodes <= 24; nodes++) {
            TransletDesk d = Due.chain(nodes);
            fill(d);
            d.template(0, 0, 0, 3, 1);
            Due.same("a chain of " + nodes, d.transform(0), nodes <= 12 ? nodes : STALLS);
            int from = nodes > 12 ? nodes - 12 : 0;
            Due.same("the last twelve", d.transform(from), nodes - from);
        }
        TransletDesk d = desk();
        d.template(0, 0, 0, 3, 0);
        Due.same("one that handles itself", d.transform(5), STALLS);
        Due.put(d, 5, STEP, Due.step(1, Due.ANY, 1), STEP, Due.step(10, Due.ANY, 0), HERE, 0, NUM, 1);
        d.template(0, 0, 0, 3, 5);
        Due.same("one that handles one that handles it", d.transform(0), STALLS);
    }

    private static void withinElevenWithoutTemplates() {
        Due.part("promise 16: within twelve others, those that match none among them");
        for (int nodes = 11; nodes <= 14; nodes++) {
            TransletDesk d = Due.chain(nodes);
            Due.same("a chain of " + nodes + ", no templates", d.transform(0),
                nodes <= 12 ? 0 : STALLS);
            fill(d);
            d.change(nodes - 1, 1, 5);
            Due.put(d, 5, STEP, Due.step(0, 1, 0), HERE, 0);
            d.template(0, 5, 0, 2, -1);
            Due.same("a chain of " + nodes + ", the last matches", d.transform(0),
                nodes <= 12 ? 1 : STALLS);
            Due.same("it is put out", d.output(0), nodes <= 12 ? 5 : 0);
            d.change(11, 1, 6);
            Due.same("the twelfth, if there is one, goes no further", d.transform(0), 1);
        }
    }

    private static void withinCountsThoseAboveAlone() {
        Due.part("promise 16: within others, not behind others");
        TransletDesk d = Due.chain(12);
        fill(d);
        d.template(0, 0, 0, 3, 1);
        for (int i = 0; i < 12; i++) {
            Due.same("one more beside the last", d.insert(10, i, 0), 12 + i);
            Due.same("12 deep, all the same", d.transform(0), 13 + i);
        }
        d.remove(23);
        Due.same("23 nodes, one too deep", d.insert(22, 0, 0), 23);
        Due.same("the last but one is too deep", d.transform(0), STALLS);
        d.move(23, 0, 1);
        Due.same("up again", d.transform(0), 24);
    }

    private static void nothingIsKept() {
        Due.part("promise 16: STALLS, and nothing is kept");
        TransletDesk d = square(8, 10, 2);
        Due.same("101 nodes", d.transform(0), STALLS);
        for (int k = -1; k <= 101; k++) {
            Due.same("output(" + k + ")", d.output(k), 0);
        }
        Due.same("fewer nodes", d.transform(1), 11);
        Due.putOut(d, 1, 9, 10, 11, 12, 13, 14, 15, 16, 17, 18);
        Due.same("101 nodes", d.transform(0), STALLS);
        Due.putOut(d);
        Due.same("output(1)", d.output(1), 0);
        Due.same("output(10)", d.output(10), 0);
    }

    // ---- promises 17 and 18 ----

    private static void outputOfNone() {
        Due.part("promise 17: number k (0 the first); 0 if there is none");
        TransletDesk d = desk();
        int[] odd = {-1, -2, 3, 4, 99, 100, 101, LEAST, GREATEST};
        for (int k : odd) {
            Due.same("before any: output(" + k + ")", d.output(k), 0);
        }
        Due.same("before any: output(0)", d.output(0), 0);
        d.template(0, 0, 0, 2, 1);
        Due.same("transform(1)", d.transform(1), 3);
        Due.same("output(0)", d.output(0), 10);
        Due.same("output(1)", d.output(1), 40);
        Due.same("output(2)", d.output(2), 30);
        for (int k : odd) {
            Due.same("output(" + k + ")", d.output(k), 0);
        }
        d.change(3, 0, LEAST);
        Due.same("what was put out does not change", d.output(2), 30);
        Due.same("transform(3)", d.transform(3), 1);
        Due.putOut(d, LEAST);
    }

    private static void outputOfLatest() {
        Due.part("promise 17: of what the latest transform put out");
        TransletDesk d = desk();
        d.template(0, 0, 0, 2, 1);
        Due.same("eight", d.transform(0), 8);
        Due.same("three", d.transform(2), 3);
        Due.putOut(d, 20, 60, 70);
        for (int k = 3; k < 8; k++) {
            Due.same("the longer one is gone: output(" + k + ")", d.output(k), 0);
        }
        d.drop(0);
        Due.same("what was put out stays", d.output(2), 70);
        Due.same("none", d.transform(0), 0);
        Due.putOut(d);
        Due.same("output(2)", d.output(2), 0);
    }

    private static void outputStaysWithRefused() {
        Due.part("promise 18: with REFUSED what the latest one put out stays");
        TransletDesk d = desk();
        d.template(0, 0, 0, 2, 1);
        Due.same("transform(2)", d.transform(2), 3);
        for (int node : NO_NODES) {
            Due.same("transform(" + node + ")", d.transform(node), REFUSED);
            Due.putOut(d, 20, 60, 70);
        }
        d.remove(0);
        Due.same("the root is gone", d.transform(0), REFUSED);
        Due.putOut(d, 20, 60, 70);
    }

    private static void outputIsGoneWithStalls() {
        Due.part("promise 18: with STALLS there is nothing put out");
        TransletDesk d = desk();
        d.template(0, 0, 0, 2, 1);
        Due.same("eight", d.transform(0), 8);
        d.template(0, 0, 0, 2, 0);
        Due.same("one that handles itself", d.transform(7), STALLS);
        for (int k = -1; k <= 101; k++) {
            Due.same("output(" + k + ")", d.output(k), 0);
        }
        Due.same("REFUSED after it", d.transform(8), REFUSED);
        Due.putOut(d);
        d.template(0, 0, 0, 2, -1);
        onlyOne(d, 7, 70);
    }

    private static void outputOfHundred() {
        Due.part("promise 17: number 99 of 100");
        TransletDesk d = square(8, 10, 1);
        Due.same("100 nodes", d.transform(0), 100);
        for (int k = 0; k < 100; k++) {
            int want = k == 0 ? 0 : k == 99 ? 19 : k > 88 ? k - 80 : (k - 1) % 11 == 0 ? k / 11 + 1
                : (k - 1) % 11 + 8;
            Due.same("output(" + k + ")", d.output(k), want);
        }
        Due.same("output(100)", d.output(100), 0);
        Due.same("output(-1)", d.output(-1), 0);
    }

    private static void lastCall() {
        Due.part("an object is used for at most 512 calls");
        TransletDesk d = new TransletDesk();
        int calls = 0;
        for (int i = 0; i < 23; i++) {
            Due.same("insert", d.insert(0, 0, 0), i);
            calls++;
        }
        Due.same("token", d.token(HERE, 0), 1);
        Due.same("expression", d.expression(7), TransletDesk.SET);
        Due.yes("template", d.template(5, 7, 0, 7, -1));
        calls += 3;
        while (calls < 506) {
            Due.same("insert", d.insert(0, 22, 0), 23);
            Due.yes("change", d.change(23, 5, calls));
            Due.same("transform", d.transform(23), 1);
            Due.same("output", d.output(0), calls);
            Due.same("remove", d.remove(23), 1);
            calls += 5;
        }
        Due.same("call 507", d.insert(0, 0, 0), 23);
        Due.same("call 508", d.insert(0, 0, 0), REFUSED);
        Due.same("call 509", d.transform(0), 1);
        Due.yes("call 510", d.matches(5, 23));
        Due.same("call 511", d.size(7, 23), 1);
        Due.same("call 512", d.remove(0), 24);
    }
}
