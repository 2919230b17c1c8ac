/** Promises 7 to 12: token, expression, size, at, number, holds; and their part of 18. */
public final class ExpressionTest {
    private static final int REFUSED = TransletDesk.REFUSED, WRONG = TransletDesk.WRONG;
    private static final int SET = TransletDesk.SET, NUMBER = TransletDesk.NUMBER;
    private static final int TRUTH = TransletDesk.TRUTH;
    private static final int LEAST = Integer.MIN_VALUE, GREATEST = Integer.MAX_VALUE;

    private ExpressionTest() {
    }

    public static void main(String[] args) {
        tokens();
        types();
        wrongExpressions();
        draftAndSlots();
        axes();
        steps();
        places();
        nestedTests();
        refusals();
        numbers();
        comparisons();
        truths();
        deepExpression();
        Due.end();
    }

    private static void tokens() {
        Due.part("promise 7");
        TransletDesk desk = new TransletDesk();
        Due.same("kind -1", desk.token(-1, 0), REFUSED);
        Due.same("kind 18", desk.token(18, 0), REFUSED);
        Due.same("kind least", desk.token(LEAST, 0), REFUSED);
        Due.same("kind greatest", desk.token(GREATEST, 0), REFUSED);
        int length = 0;
        for (int value = -300; value < 600; value++) {
            int axis = Math.floorMod(value, 16);
            int name = Math.floorMod(Math.floorDiv(value, 16), 8);
            boolean fine = value >= 0 && value < 384 && axis <= 10 && name <= 6;
            length++;
            Due.same("STEP " + value, desk.token(Due.STEP, value), fine ? length : REFUSED);
            if (!fine) {
                length--;
            }
            if (length == 39) {
                desk = new TransletDesk();
                length = 0;
            }
        }
        Due.same("STEP least", desk.token(Due.STEP, LEAST), REFUSED);
        Due.same("STEP greatest", desk.token(Due.STEP, GREATEST), REFUSED);
        desk = new TransletDesk();
        length = 0;
        for (int kind = 0; kind <= 17; kind++) {
            length++;
            int value = kind == Due.STEP ? 0 : GREATEST;
            Due.same("kind " + kind, desk.token(kind, value), length);
            length++;
            Due.same("kind " + kind, desk.token(kind, kind == Due.STEP ? 0 : LEAST), length);
        }
        Due.same("37", desk.token(0, 0), 37);
        Due.same("38", desk.token(0, 0), 38);
        Due.same("39", desk.token(0, 0), 39);
        Due.same("40", desk.token(0, 0), 40);
        Due.same("41", desk.token(0, 0), REFUSED);
        Due.same("42", desk.token(4, 1), REFUSED);
    }

    private static void types() {
        Due.part("promise 8, types");
        int h = Due.HERE;
        int n = Due.NUM;
        TransletDesk d = new TransletDesk();
        Due.same("HERE", Due.put(d, 0, h, 0), SET);
        Due.same("ROOT", Due.put(d, 0, Due.ROOT, 0), SET);
        Due.same("STEP", Due.put(d, 0, Due.STEP, 0, h, 0), SET);
        Due.same("STEP 1", Due.put(d, 0, Due.STEP, 128, h, 0, n, 1), SET);
        Due.same("STEP 2", Due.put(d, 0, Due.STEP, 256, h, 0, h, 0, Due.NOT, 0, n, 1), SET);
        Due.same("UNION", Due.put(d, 0, Due.UNION, 0, h, 0, h, 0), SET);
        Due.same("NUM", Due.put(d, 0, n, LEAST), NUMBER);
        Due.same("POSITION", Due.put(d, 0, Due.POSITION, 0), NUMBER);
        Due.same("LAST", Due.put(d, 0, Due.LAST, 0), NUMBER);
        for (int kind = Due.COUNT; kind <= Due.VALUE; kind++) {
            Due.same("kind " + kind, Due.put(d, 0, kind, 0, h, 0), NUMBER);
            Due.same("kind " + kind + " of a number", Due.put(d, 0, kind, 0, n, 0), WRONG);
            Due.same("kind " + kind + " of a truth", Due.put(d, 0, kind, 0, 17, 0, n, 0), WRONG);
        }
        for (int kind = Due.ADD; kind <= Due.SAME; kind++) {
            int type = kind <= Due.MUL ? NUMBER : TRUTH;
            Due.same("kind " + kind, Due.put(d, 0, kind, 0, n, 0, n, 0), type);
            Due.same("kind " + kind, Due.put(d, 0, kind, 0, h, 0, n, 0), type);
            Due.same("kind " + kind, Due.put(d, 0, kind, 0, n, 0, h, 0), type);
            Due.same("kind " + kind, Due.put(d, 0, kind, 0, h, 0, h, 0), type);
            Due.same("kind " + kind, Due.put(d, 0, kind, 0, 17, 0, n, 0, n, 0), WRONG);
            Due.same("kind " + kind, Due.put(d, 0, kind, 0, n, 0, 17, 0, n, 0), WRONG);
        }
        for (int kind = Due.AND; kind <= Due.OR; kind++) {
            Due.same("kind " + kind, Due.put(d, 0, kind, 0, n, 0, h, 0), TRUTH);
            Due.same("kind " + kind, Due.put(d, 0, kind, 0, h, 0, 17, 0, n, 0), TRUTH);
            Due.same("kind " + kind, Due.put(d, 0, kind, 0, 17, 0, h, 0, n, 0), TRUTH);
        }
        Due.same("NOT of a set", Due.put(d, 0, Due.NOT, 0, h, 0), TRUTH);
        Due.same("NOT of a number", Due.put(d, 0, Due.NOT, 0, n, 0), TRUTH);
        Due.same("NOT of a truth", Due.put(d, 0, Due.NOT, 0, Due.NOT, 0, n, 0), TRUTH);
    }

    private static void wrongExpressions() {
        Due.part("promise 8, wrong");
        int h = Due.HERE;
        int n = Due.NUM;
        TransletDesk d = new TransletDesk();
        Due.same("an empty draft", d.expression(0), WRONG);
        Due.same("two expressions", Due.put(d, 0, h, 0, h, 0), WRONG);
        Due.same("a token too many", Due.put(d, 0, Due.NOT, 0, n, 0, n, 0), WRONG);
        Due.same("operands are missing", Due.put(d, 0, Due.ADD, 0, n, 0), WRONG);
        Due.same("all operands are missing", Due.put(d, 0, Due.UNION, 0), WRONG);
        Due.same("STEP without a set", Due.put(d, 0, Due.STEP, 0), WRONG);
        Due.same("STEP of a number", Due.put(d, 0, Due.STEP, 0, n, 0), WRONG);
        Due.same("STEP of a truth", Due.put(d, 0, Due.STEP, 0, 17, 0, n, 0), WRONG);
        Due.same("STEP with a test too few", Due.put(d, 0, Due.STEP, 128, h, 0), WRONG);
        Due.same("STEP with a test too few", Due.put(d, 0, Due.STEP, 256, h, 0, n, 1), WRONG);
        Due.same("STEP with a test too many", Due.put(d, 0, Due.STEP, 128, h, 0, n, 1, n, 1), WRONG);
        Due.same("STEP with the test first", Due.put(d, 0, Due.STEP, 128, n, 1, h, 0), WRONG);
        Due.same("UNION with a number", Due.put(d, 0, Due.UNION, 0, h, 0, n, 0), WRONG);
        Due.same("UNION with a number", Due.put(d, 0, Due.UNION, 0, n, 0, h, 0), WRONG);
        Due.same("UNION with a truth", Due.put(d, 0, Due.UNION, 0, h, 0, 17, 0, h, 0), WRONG);
        for (int i = 0; i < 40; i++) {
            d.token(Due.NOT, 0);
        }
        Due.same("40 tokens without an end", d.expression(0), WRONG);
        Due.same("wrong inside a test", Due.put(d, 0, Due.STEP, 128, h, 0, 7, 0, n, 1), WRONG);
    }

    private static void draftAndSlots() {
        Due.part("promises 8 and 18");
        TransletDesk d = Due.tree();
        d.token(Due.NUM, 5);
        Due.same("slot -1", d.expression(-1), REFUSED);
        Due.same("slot 8", d.expression(8), REFUSED);
        Due.same("slot least", d.expression(LEAST), REFUSED);
        Due.same("slot greatest", d.expression(GREATEST), REFUSED);
        Due.same("the draft stays", d.expression(7), NUMBER);
        Due.same("the draft is empty then", d.expression(7), WRONG);
        Due.same("the slot stays", d.number(7, 0), 5);
        d.token(Due.NUM, 6);
        d.token(Due.NUM, 7);
        Due.same("two numbers", d.expression(7), WRONG);
        Due.same("the slot stays", d.number(7, 0), 5);
        Due.same("the draft is empty after WRONG", d.token(Due.NUM, 8), 1);
        Due.same("slot 0", d.expression(0), NUMBER);
        Due.same("slot 0", d.number(0, 0), 8);
        Due.same("slot 7", d.number(7, 0), 5);
        for (int slot = 0; slot < 8; slot++) {
            Due.put(d, slot, Due.ADD, 0, Due.HERE, 0, Due.NUM, slot);
        }
        for (int slot = 0; slot < 8; slot++) {
            Due.same("slot " + slot, d.number(slot, 3), 30 + slot);
        }
        Due.same("a set replaces it", Due.put(d, 4, Due.HERE, 0), SET);
        Due.set("slot 4", d, 4, 3, 3);
        Due.same("slot 5 stays", d.number(5, 3), 35);
    }

    /** The numbers along each axis, in document order, from 2 and other nodes of the tree. */
    private static void axes() {
        Due.part("axes");
        int[][] from2 = {{2}, {6, 7}, {0}, {6, 7}, {0}, {5}, {1}, {5}, {1, 4, 3}, {2, 6, 7}, {0, 2}};
        int[][] from0 = {{0}, {1, 2, 5}, {}, {1, 4, 3, 2, 6, 7, 5}, {}, {}, {}, {}, {},
            {0, 1, 4, 3, 2, 6, 7, 5}, {0}};
        int[][] from7 = {{7}, {}, {2}, {}, {0, 2}, {}, {6}, {5}, {1, 4, 3, 6}, {7}, {0, 2, 7}};
        int[][] from4 = {{4}, {}, {1}, {}, {0, 1}, {3}, {}, {3, 2, 6, 7, 5}, {}, {4}, {0, 1, 4}};
        for (int axis = 0; axis <= 10; axis++) {
            TransletDesk d = Due.tree();
            Due.put(d, 0, Due.STEP, Due.step(axis, Due.ANY, 0), Due.HERE, 0);
            Due.set("axis " + axis, d, 0, 2, from2[axis]);
            Due.set("axis " + axis, d, 0, 0, from0[axis]);
            Due.set("axis " + axis, d, 0, 7, from7[axis]);
            Due.set("axis " + axis, d, 0, 4, from4[axis]);
            checkPlacesAlong(d, axis, 7, from7[axis]);
            checkPlacesAlong(d, axis, 4, from4[axis]);
        }
    }

    /** The k-th in the order of the axis is the k-th from the end of those that are turned round. */
    private static void checkPlacesAlong(TransletDesk d, int axis, int node, int[] nodes) {
        boolean turned = axis == 2 || axis == 4 || axis == 6 || axis == 8 || axis == 10;
        for (int k = 1; k <= nodes.length; k++) {
            int want = turned ? nodes[nodes.length - k] : nodes[k - 1];
            d.token(Due.STEP, Due.step(axis, Due.ANY, 1));
            d.token(Due.HERE, 0);
            d.token(Due.NUM, k);
            d.expression(1);
            Due.same("place " + k + " on axis " + axis + " from " + node, d.at(1, node, 0), want);
            Due.same("only one such", d.size(1, node), 1);
        }
    }

    private static void steps() {
        Due.part("promises 9 and 10");
        TransletDesk d = Due.tree();
        Due.put(d, 0, Due.STEP, Due.step(3, 1, 0), Due.ROOT, 0);
        Due.set("below the root with the name 1", d, 0, 6, 1, 4, 7);
        Due.put(d, 0, Due.STEP, Due.step(1, Due.ANY, 0), Due.STEP, Due.step(1, 2, 0), Due.HERE, 0);
        Due.set("children of children with the name 2", d, 0, 0, 6, 7);
        Due.put(d, 0, Due.UNION, 0, Due.HERE, 0, Due.STEP, Due.step(10, Due.ANY, 0), Due.HERE, 0);
        Due.set("it and all above", d, 0, 7, 0, 2, 7);
        Due.put(d, 0, Due.UNION, 0, Due.STEP, Due.step(5, Due.ANY, 0), Due.HERE, 0, Due.ROOT, 0);
        Due.set("the root and siblings behind", d, 0, 1, 0, 2, 5);
        Due.put(d, 0, Due.STEP, Due.step(4, Due.ANY, 0), Due.STEP, Due.step(3, Due.ANY, 0), Due.HERE, 0);
        Due.set("above all below: each once", d, 0, 0, 0, 1, 2);
        Due.put(d, 0, Due.STEP, Due.step(3, 4, 0), Due.ROOT, 0);
        Due.set("no node has the name", d, 0, 0);
        Due.put(d, 0, Due.ROOT, 0);
        Due.set("the root", d, 0, 4, 0);
        Due.put(d, 0, Due.HERE, 0);
        Due.set("here", d, 0, 4, 4);
    }

    private static void places() {
        Due.part("tests of places");
        TransletDesk d = Due.tree();
        int any1 = Due.step(1, Due.ANY, 1);
        int all = Due.step(9, Due.ANY, 0);
        Due.put(d, 0, Due.STEP, any1, 0, 0, Due.NUM, 2);
        Due.set("the second child", d, 0, 0, 2);
        Due.put(d, 0, Due.STEP, any1, Due.STEP, all, 1, 0, Due.NUM, 2);
        Due.set("each second child: a list for each node", d, 0, 3, 3, 2, 7);
        Due.put(d, 0, Due.STEP, any1, Due.STEP, all, 1, 0, Due.LAST, 0);
        Due.set("each last child", d, 0, 3, 3, 7, 5);
        Due.put(d, 0, Due.STEP, any1, 0, 0, Due.POSITION, 0);
        Due.set("a number that is POSITION always", d, 0, 0, 1, 2, 5);
        Due.put(d, 0, Due.STEP, any1, 0, 0, Due.NUM, 0);
        Due.set("place 0", d, 0, 0);
        Due.put(d, 0, Due.STEP, any1, 0, 0, Due.SUB, 0, Due.LAST, 0, Due.NUM, 1);
        Due.set("the last but one", d, 0, 0, 2);
        Due.put(d, 0, Due.STEP, Due.step(1, Due.ANY, 2), 0, 0,
            Due.LESS, 0, Due.NUM, 1, Due.POSITION, 0, Due.NUM, 1);
        Due.set("places anew for the second test", d, 0, 0, 2);
        Due.put(d, 0, Due.STEP, Due.step(1, Due.ANY, 2), 0, 0,
            Due.LESS, 0, Due.POSITION, 0, Due.LAST, 0, Due.LAST, 0);
        Due.set("the length anew for the second test", d, 0, 0, 2);
        Due.put(d, 0, Due.STEP, Due.step(8, Due.ANY, 2), 0, 0,
            Due.LESS, 0, Due.NUM, 1, Due.POSITION, 0, Due.NUM, 1);
        Due.set("the order stays turned round", d, 0, 5, 6);
        Due.put(d, 0, Due.STEP, Due.step(3, 1, 1), Due.ROOT, 0, Due.NUM, 2);
        Due.set("places count those with the name only", d, 0, 0, 4);
        Due.put(d, 0, Due.STEP, Due.step(4, Due.ANY, 1), 0, 0, Due.NUM, 1);
        Due.set("the first above", d, 0, 6, 2);
        Due.put(d, 0, Due.STEP, any1, 0, 0, Due.ADD, 0, Due.POSITION, 0, Due.NUM, 0);
        Due.set("a sum that is POSITION", d, 0, 0, 1, 2, 5);
    }

    private static void nestedTests() {
        Due.part("tests at nodes");
        TransletDesk d = Due.tree();
        int children = Due.step(1, Due.ANY, 0);
        int test = Due.step(9, Due.ANY, 1);
        Due.put(d, 0, Due.STEP, test, 1, 0, Due.STEP, children, 0, 0);
        Due.set("those with children: a set that is not empty", d, 0, 5, 0, 1, 2);
        Due.put(d, 0, Due.STEP, test, 1, 0, Due.NOT, 0, Due.STEP, children, 0, 0);
        Due.set("those without", d, 0, 5, 4, 3, 6, 7, 5);
        Due.put(d, 0, Due.STEP, test, 1, 0, Due.SAME, 0, 0, 0, Due.NUM, 60);
        Due.set("those with the value 60", d, 0, 5, 6);
        Due.put(d, 0, Due.STEP, test, 1, 0, Due.COUNT, 0, Due.STEP, children, 0, 0);
        Due.set("those whose place is the number of their children", d, 0, 5, 1);
        Due.put(d, 0, Due.STEP, test, 1, 0, Due.STEP, Due.step(1, Due.ANY, 1), 0, 0, Due.NUM, 3);
        Due.set("those with a third child: the inner place is its own", d, 0, 5, 0);
        Due.put(d, 0, Due.STEP, Due.step(1, Due.ANY, 1), 1, 0,
            Due.AND, 0, Due.STEP, Due.step(1, Due.ANY, 1), 0, 0, Due.LAST, 0,
            Due.SAME, 0, Due.POSITION, 0, Due.NUM, 2);
        Due.set("the outer place is not spoilt by the inner one", d, 0, 5, 2);
    }

    private static void refusals() {
        Due.part("promises 9 to 12, refused");
        TransletDesk d = Due.tree();
        Due.put(d, 0, Due.HERE, 0);
        Due.put(d, 1, Due.NUM, 4);
        Due.put(d, 2, Due.NOT, 0, Due.NUM, 0);
        int[] wrongSlots = {-1, 8, 3, LEAST, GREATEST};
        for (int slot : wrongSlots) {
            Due.same("size of slot " + slot, d.size(slot, 1), REFUSED);
            Due.same("at of slot " + slot, d.at(slot, 1, 0), REFUSED);
            Due.same("number of slot " + slot, d.number(slot, 1), 0);
            Due.no("holds of slot " + slot, d.holds(slot, 1));
        }
        int[] wrongNodes = {-1, 8, 23, 24, LEAST, GREATEST};
        for (int node : wrongNodes) {
            Due.same("size at " + node, d.size(0, node), REFUSED);
            Due.same("at at " + node, d.at(0, node, 0), REFUSED);
            Due.same("number at " + node, d.number(1, node), 0);
            Due.no("holds at " + node, d.holds(1, node));
            Due.no("a truth at " + node, d.holds(2, node));
        }
        Due.same("size of a number", d.size(1, 1), REFUSED);
        Due.same("at of a number", d.at(1, 1, 0), REFUSED);
        Due.same("size of a truth", d.size(2, 1), REFUSED);
        Due.same("at of a truth", d.at(2, 1, 0), REFUSED);
        Due.same("k = 1 of 1", d.at(0, 1, 1), REFUSED);
        Due.same("k = -1", d.at(0, 1, -1), REFUSED);
        Due.same("k least", d.at(0, 1, LEAST), REFUSED);
        Due.same("k greatest", d.at(0, 1, GREATEST), REFUSED);
    }

    private static void numbers() {
        Due.part("promise 11");
        TransletDesk d = Due.tree();
        int all = Due.step(9, Due.ANY, 0);
        int children = Due.step(1, Due.ANY, 0);
        Due.put(d, 0, Due.COUNT, 0, Due.STEP, all, 0, 0);
        Due.same("COUNT", d.number(0, 0), 8);
        Due.same("COUNT", d.number(0, 1), 3);
        Due.put(d, 0, Due.SUM, 0, Due.STEP, all, 0, 0);
        Due.same("SUM", d.number(0, 0), 280);
        Due.same("SUM", d.number(0, 2), 150);
        Due.put(d, 0, Due.SUM, 0, Due.STEP, children, 0, 0);
        Due.same("SUM of none", d.number(0, 5), 0);
        Due.put(d, 0, Due.VALUE, 0, Due.STEP, children, 0, 0);
        Due.same("VALUE: the first in document order", d.number(0, 1), 40);
        Due.same("VALUE of none", d.number(0, 5), 0);
        Due.put(d, 0, Due.STEP, Due.step(8, Due.ANY, 0), 0, 0);
        Due.same("a set: VALUE, not in the order of the axis", d.number(0, 5), 10);
        Due.put(d, 0, Due.NUM, -77);
        Due.same("NUM", d.number(0, 5), -77);
        Due.put(d, 0, Due.POSITION, 0);
        Due.same("POSITION", d.number(0, 5), 1);
        Due.put(d, 0, Due.LAST, 0);
        Due.same("LAST", d.number(0, 5), 1);
        Due.put(d, 0, Due.SUB, 0, 0, 0, Due.NUM, 3);
        Due.same("SUB with a set", d.number(0, 5), 47);
        Due.put(d, 0, Due.SUB, 0, Due.NUM, 3, 0, 0);
        Due.same("SUB with a set behind", d.number(0, 5), -47);
        Due.put(d, 0, Due.MUL, 0, Due.STEP, children, 0, 0, Due.STEP, children, 0, 0);
        Due.same("MUL of sets", d.number(0, 1), 1600);
        Due.same("MUL of none", d.number(0, 5), 0);
        Due.put(d, 0, Due.ADD, 0, Due.MUL, 0, Due.NUM, 3, Due.NUM, 4, Due.SUB, 0, Due.NUM, 1, Due.NUM, 6);
        Due.same("3 * 4 + (1 - 6)", d.number(0, 5), 7);
        Due.put(d, 0, Due.ADD, 0, Due.NUM, GREATEST, Due.NUM, 1);
        Due.same("ADD wraps", d.number(0, 5), LEAST);
        Due.put(d, 0, Due.SUB, 0, Due.NUM, LEAST, Due.NUM, 1);
        Due.same("SUB wraps", d.number(0, 5), GREATEST);
        Due.put(d, 0, Due.MUL, 0, Due.NUM, 65537, Due.NUM, 65537);
        Due.same("MUL wraps", d.number(0, 5), 131073);
        Due.put(d, 0, Due.NOT, 0, Due.NUM, 0);
        Due.same("a truth: 1", d.number(0, 5), 1);
        Due.put(d, 0, Due.NOT, 0, Due.NUM, 7);
        Due.same("a truth: 0", d.number(0, 5), 0);
        Due.put(d, 0, Due.LESS, 0, Due.NUM, 2, Due.NUM, 3);
        Due.same("LESS: 1", d.number(0, 5), 1);
        Due.put(d, 0, Due.OR, 0, Due.NUM, 0, Due.NUM, 3);
        Due.same("OR: 1", d.number(0, 5), 1);
        Due.put(d, 0, Due.OR, 0, Due.NUM, 0, Due.NUM, 0);
        Due.same("OR: 0", d.number(0, 5), 0);
        d.change(0, 0, -4);
        Due.put(d, 0, Due.ROOT, 0);
        Due.same("the value of the root", d.number(0, 5), -4);
        Due.put(d, 0, Due.SUM, 0, Due.UNION, 0, Due.ROOT, 0, 0, 0);
        Due.same("a sum with the root", d.number(0, 5), 46);
        Due.same("a sum of the root alone", d.number(0, 0), -4);
        d.change(6, 0, GREATEST);
        d.change(7, 0, GREATEST);
        Due.put(d, 0, Due.SUM, 0, Due.STEP, children, 0, 0);
        Due.same("SUM wraps", d.number(0, 2), -2);
    }

    private static void comparisons() {
        Due.part("LESS and SAME");
        TransletDesk d = Due.tree();
        int n = Due.NUM;
        int children = Due.step(1, Due.ANY, 0);
        Due.put(d, 0, Due.LESS, 0, n, LEAST, n, GREATEST);
        Due.yes("least < greatest", d.holds(0, 0));
        Due.put(d, 0, Due.LESS, 0, n, 3, n, 3);
        Due.no("3 < 3", d.holds(0, 0));
        Due.put(d, 0, Due.LESS, 0, n, 4, n, 3);
        Due.no("4 < 3", d.holds(0, 0));
        Due.put(d, 0, Due.SAME, 0, n, 3, n, 3);
        Due.yes("3 = 3", d.holds(0, 0));
        Due.put(d, 0, Due.SAME, 0, n, 3, n, -3);
        Due.no("3 = -3", d.holds(0, 0));
        Due.put(d, 0, Due.LESS, 0, Due.STEP, children, 0, 0, n, 40);
        Due.yes("30 < 40, though the first is 40", d.holds(0, 1));
        Due.no("60, 70 < 40", d.holds(0, 2));
        Due.no("none < 40", d.holds(0, 5));
        Due.put(d, 0, Due.LESS, 0, n, 20, Due.STEP, children, 0, 0);
        Due.yes("20 < 50, the last", d.holds(0, 0));
        Due.put(d, 0, Due.LESS, 0, n, 50, Due.STEP, children, 0, 0);
        Due.no("50 < 50", d.holds(0, 0));
        Due.put(d, 0, Due.SAME, 0, Due.STEP, children, 0, 0, n, 50);
        Due.yes("one is 50", d.holds(0, 0));
        Due.no("none is 50", d.holds(0, 1));
        Due.put(d, 0, Due.SAME, 0, n, 0, Due.STEP, children, 0, 0);
        Due.no("an empty set has no value 0", d.holds(0, 5));
        int up = Due.step(6, Due.ANY, 0);
        Due.put(d, 0, Due.LESS, 0, Due.STEP, children, 0, 0, Due.STEP, up, 0, 0);
        Due.no("60, 70 < 10", d.holds(0, 2));
        d.change(1, 1, 61);
        Due.yes("60 < 61", d.holds(0, 2));
        Due.no("both sets, one is empty", d.holds(0, 1));
        Due.put(d, 0, Due.SAME, 0, Due.STEP, children, 0, 0, Due.STEP, up, 0, 0);
        Due.no("60, 70 = 61", d.holds(0, 2));
        d.change(1, 1, 70);
        Due.yes("70 = 70", d.holds(0, 2));
        Due.put(d, 0, Due.SAME, 0, Due.UNION, 0, Due.ROOT, 0, 0, 0, n, 50);
        Due.yes("a union in front", d.holds(0, 5));
        Due.put(d, 0, Due.SAME, 0, n, 50, Due.UNION, 0, Due.ROOT, 0, 0, 0);
        Due.yes("a union behind", d.holds(0, 5));
        Due.put(d, 0, Due.SAME, 0, Due.COUNT, 0, Due.STEP, children, 0, 0, n, 2);
        Due.yes("two children", d.holds(0, 2));
        Due.no("three children", d.holds(0, 0));
    }

    private static void truths() {
        Due.part("promise 12");
        TransletDesk d = Due.tree();
        int t = Due.NUM;
        int children = Due.step(1, Due.ANY, 0);
        Due.put(d, 0, Due.STEP, children, 0, 0);
        Due.yes("a set", d.holds(0, 1));
        Due.no("an empty set", d.holds(0, 3));
        d.change(0, 0, 0);
        Due.put(d, 0, Due.ROOT, 0);
        Due.yes("a set whose value is 0", d.holds(0, 3));
        Due.put(d, 0, Due.UNION, 0, Due.ROOT, 0, Due.ROOT, 0);
        Due.yes("a union whose value is 0", d.holds(0, 3));
        Due.put(d, 0, Due.SAME, 0, Due.POSITION, 0, Due.NUM, 1);
        Due.yes("POSITION is 1", d.holds(0, 3));
        Due.put(d, 0, Due.SAME, 0, Due.LAST, 0, Due.NUM, 1);
        Due.yes("LAST is 1", d.holds(0, 3));
        int[] numbers = {0, 1, -1, LEAST};
        for (int a : numbers) {
            Due.put(d, 0, t, a);
            Due.same("number " + a, d.holds(0, 0) ? 1 : 0, a != 0 ? 1 : 0);
            Due.put(d, 0, Due.NOT, 0, t, a);
            Due.same("NOT " + a, d.holds(0, 0) ? 1 : 0, a == 0 ? 1 : 0);
            Due.put(d, 0, Due.AND, 0, t, a, Due.ROOT, 0);
            Due.same("AND " + a, d.holds(0, 0) ? 1 : 0, a != 0 ? 1 : 0);
            Due.put(d, 0, Due.AND, 0, Due.ROOT, 0, t, a);
            Due.same("AND behind " + a, d.holds(0, 0) ? 1 : 0, a != 0 ? 1 : 0);
            Due.put(d, 0, Due.OR, 0, t, a, Due.STEP, Due.step(2, Due.ANY, 0), Due.ROOT, 0);
            Due.same("OR " + a, d.holds(0, 0) ? 1 : 0, a != 0 ? 1 : 0);
            Due.put(d, 0, Due.OR, 0, Due.NOT, 0, Due.ROOT, 0, t, a);
            Due.same("OR behind " + a, d.holds(0, 0) ? 1 : 0, a != 0 ? 1 : 0);
        }
        Due.put(d, 0, Due.AND, 0, Due.NUM, 2, Due.NUM, 4);
        Due.same("AND of 2 and 4 is 1", d.number(0, 0), 1);
        Due.put(d, 0, Due.STEP, Due.step(1, Due.ANY, 1), 0, 0, Due.AND, 0, Due.NUM, 9, Due.NUM, 9);
        Due.set("in AND a number is not a place", d, 0, 0, 1, 2, 5);
    }

    /** Tests within tests as deep as 40 tokens go: the call must end soon all the same. */
    private static void deepExpression() {
        Due.part("a deep expression");
        TransletDesk d = new TransletDesk();
        for (int i = 0; i < 24; i++) {
            d.insert(0, 0, 0);
        }
        for (int i = 0; i < 19; i++) {
            d.token(Due.STEP, Due.step(9, Due.ANY, 1));
            d.token(Due.ROOT, 0);
        }
        d.token(Due.STEP, Due.step(9, Due.ANY, 0));
        Due.same("40 tokens", d.token(Due.HERE, 0), 40);
        Due.same("expression", d.expression(7), SET);
        Due.same("size", d.size(7, 5), 24);
        Due.same("at", d.at(7, 5, 1), 23);
    }
}
