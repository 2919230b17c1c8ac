/**
 * The edges of drafts and expressions: a test for each sentence of 'Terms' on expressions and axes,
 * of promises 7 to 12 and of 18 that names one. Each part is headed by the sentence's words.
 */
public final class ExpressionEdgeTest {
    private static final int REFUSED = TransletDesk.REFUSED, WRONG = TransletDesk.WRONG;
    private static final int SET = TransletDesk.SET, NUMBER = TransletDesk.NUMBER;
    private static final int TRUTH = TransletDesk.TRUTH;
    private static final int LEAST = Integer.MIN_VALUE, GREATEST = Integer.MAX_VALUE;

    private static final int HERE = Due.HERE, ROOT = Due.ROOT, STEP = Due.STEP, NUM = Due.NUM;
    private static final int CHILDREN = Due.step(1, Due.ANY, 0), ALL = Due.step(9, Due.ANY, 0);
    private static final int CHILDREN_1 = Due.step(1, Due.ANY, 1);
    private static final int CHILDREN_2 = Due.step(1, Due.ANY, 2);

    /** None of these is a slot; 32 would be 0 to a shift of an int. */
    private static final int[] NO_SLOTS = {-1, -2, 8, 9, 16, 32, LEAST, GREATEST};
    /** None of these is a node of the tree of the tests. */
    private static final int[] NO_NODES = {-1, 8, 23, 24, 32, -32, LEAST, GREATEST};

    private ExpressionEdgeTest() {
    }

    public static void main(String[] args) {
        noToken();
        oneToken();
        fortyTokens();
        fortyTokensInEachSlot();
        fortyTokensOfOneSet();
        operandsOfEachKind();
        typesOfOperands();
        testsOfStep();
        anyName();
        anyInt();
        positionAndLastAlone();
        hereAndRoot();
        stepFromNone();
        listForEachNode();
        placeBeforeThisTest();
        lengthBeforeThisTest();
        orderOfTheAxis();
        numberAsTest();
        truthAsTest();
        setAsTest();
        countOfNone();
        sumOfNoneAndWrapping();
        valueOfNone();
        setAsNumber();
        wrapping();
        comparedNumbers();
        comparedWithNone();
        comparedWithSets();
        andOrNot();
        axesAtTheEnds();
        axesOfRootAlone();
        kindOfToken();
        valueOfStep();
        draftOfForty();
        refusedTokenIsNotAppended();
        noSuchSlot();
        noSuchSlotForWrongDraft();
        draftIsEmptyThen();
        slotStaysAfterWrong();
        draftIsEmptyAfterWrong();
        slotIsReplaced();
        sizeRefused();
        sizeOfNoneAndAll();
        atRefused();
        atOfNone();
        numberOfNothing();
        numberOfTruth();
        holdsOfNothing();
        holdsOfEachType();
        Due.end();
    }

    // ---- Terms: expressions ----

    private static void noToken() {
        Due.part("Terms: 1 .. 40 tokens, so none is no expression");
        TransletDesk d = Due.tree();
        for (int slot = 0; slot < 8; slot++) {
            Due.same("expression(" + slot + ")", d.expression(slot), WRONG);
            Due.same("size(" + slot + ", 0)", d.size(slot, 0), REFUSED);
        }
    }

    private static void oneToken() {
        Due.part("Terms: 1 .. 40 tokens, one of them");
        for (int kind = 0; kind <= 17; kind++) {
            TransletDesk d = Due.tree();
            Due.same("kind " + kind, d.token(kind, 0), 1);
            int want = kind <= ROOT ? SET : kind >= NUM && kind <= Due.LAST ? NUMBER : WRONG;
            Due.same("kind " + kind + " alone", d.expression(0), want);
        }
    }

    private static void fortyTokens() {
        Due.part("Terms: 1 .. 40 tokens, 40 of them");
        TransletDesk d = Due.tree();
        for (int i = 1; i <= 39; i++) {
            Due.same("NOT " + i, d.token(Due.NOT, 0), i);
        }
        Due.same("the last", d.token(NUM, 0), 40);
        Due.same("expression(0)", d.expression(0), TRUTH);
        Due.yes("39 times not of 0", d.holds(0, 0));
        for (int i = 0; i < 19; i++) {
            d.token(Due.ADD, 0);
            d.token(NUM, 1 << i);
        }
        d.token(Due.VALUE, 0);
        Due.same("the last", d.token(HERE, 0), 40);
        Due.same("expression(7)", d.expression(7), NUMBER);
        Due.same("the sum", d.number(7, 7), (1 << 19) - 1 + 70);
    }

    private static void fortyTokensInEachSlot() {
        Due.part("Terms: 1 .. 40 tokens, 40 in each slot");
        TransletDesk d = Due.tree();
        for (int slot = 7; slot >= 0; slot--) {
            for (int i = 0; i < 19; i++) {
                d.token(Due.ADD, 0);
                d.token(NUM, 100 * slot + i);
            }
            d.token(Due.VALUE, 0);
            Due.same("the last", d.token(HERE, 0), 40);
            Due.same("expression(" + slot + ")", d.expression(slot), NUMBER);
        }
        for (int slot = 0; slot < 8; slot++) {
            Due.same("slot " + slot, d.number(slot, 5), 19 * 100 * slot + 171 + 50);
        }
    }

    /** Sets that reach to the last token of the last slot, worked out in each way. */
    private static void fortyTokensOfOneSet() {
        Due.part("Terms: 1 .. 40 tokens, 40 of them with a set that goes to the last");
        int[] heads = {STEP, Due.COUNT, Due.NOT};
        int[] types = {SET, NUMBER, TRUTH};
        int[] numbers = {60, 2, 0};
        for (int i = 0; i < heads.length; i++) {
            TransletDesk d = Due.tree();
            d.token(heads[i], Due.step(0, Due.ANY, 0));
            for (int j = 0; j < 37; j++) {
                d.token(STEP, Due.step(0, Due.ANY, 0));
            }
            d.token(STEP, CHILDREN);
            Due.same("the last", d.token(HERE, 0), 40);
            Due.same("expression(7)", d.expression(7), types[i]);
            Due.same("size", d.size(7, 2), i == 0 ? 2 : REFUSED);
            Due.same("at", d.at(7, 2, 1), i == 0 ? 7 : REFUSED);
            Due.same("number", d.number(7, 2), numbers[i]);
            Due.same("holds", d.holds(7, 2) ? 1 : 0, numbers[i] > 0 ? 1 : 0);
            Due.same("holds of none", d.holds(7, 5) ? 1 : 0, i == 2 ? 1 : 0);
        }
    }

    /** The least number of tokens that a kind takes is right: one fewer and one more are WRONG. */
    private static void operandsOfEachKind() {
        Due.part("Terms: prefix lists of tokens");
        int[] operands = {0, 0, 1, 2, 0, 0, 0, 1, 1, 1, 2, 2, 2, 2, 2, 2, 2, 1};
        TransletDesk d = Due.tree();
        for (int kind = 0; kind <= 17; kind++) {
            for (int given = 0; given <= 3; given++) {
                d.token(kind, 0);
                for (int i = 0; i < given; i++) {
                    d.token(HERE, 0);
                }
                int type = kind < 4 ? SET : kind < 13 ? NUMBER : TRUTH;
                Due.same("kind " + kind + " with " + given, d.expression(0),
                    given == operands[kind] ? type : WRONG);
            }
        }
    }

    private static void typesOfOperands() {
        Due.part("Terms: S a set, N a set or a number, E any");
        String[] forms = {"", "", "S", "SS", "", "", "", "S", "S", "S", "NN", "NN", "NN", "NN", "NN",
            "EE", "EE", "E"};
        for (int kind = 0; kind <= 17; kind++) {
            for (int place = 0; place < forms[kind].length(); place++) {
                TransletDesk d = Due.tree();
                int loosest = "SNE".indexOf(forms[kind].charAt(place));
                for (int type = 0; type <= 2; type++) {
                    d.token(kind, 0);
                    for (int i = 0; i < forms[kind].length(); i++) {
                        draftOfType(d, i == place ? type : 0);
                    }
                    int due = kind < 4 ? SET : kind < 13 ? NUMBER : TRUTH;
                    Due.same("kind " + kind + ", operand " + place + " of type " + type,
                        d.expression(0), type <= loosest ? due : WRONG);
                }
            }
        }
    }

    private static void draftOfType(TransletDesk d, int type) {
        if (type == 2) {
            d.token(Due.LESS, 0);
            d.token(HERE, 0);
        }
        d.token(type == 0 ? HERE : NUM, 0);
    }

    private static void testsOfStep() {
        Due.part("Terms: 0 .. 2 tests, one E for each test");
        for (int tests = 0; tests <= 2; tests++) {
            for (int given = 0; given <= 3; given++) {
                for (int type = 0; type <= 2; type++) {
                    TransletDesk d = Due.tree();
                    d.token(STEP, Due.step(1, Due.ANY, tests));
                    d.token(HERE, 0);
                    for (int i = 0; i < given; i++) {
                        draftOfType(d, type);
                    }
                    Due.same(tests + " tests, " + given + " given of type " + type,
                        d.expression(0), tests == given ? SET : WRONG);
                }
            }
        }
        TransletDesk d = Due.tree();
        Due.put(d, 0, STEP, CHILDREN_2, HERE, 0, NUM, 3, NUM, 1);
        Due.set("both tests are made", d, 0, 0, 5);
        Due.put(d, 0, STEP, CHILDREN_2, HERE, 0, NUM, 3, NUM, 2);
        Due.set("none stays in the second", d, 0, 0);
        Due.put(d, 0, STEP, CHILDREN_2, HERE, 0, NUM, 4, NUM, 1);
        Due.set("none stays in the first", d, 0, 0);
    }

    private static void anyName() {
        Due.part("Terms: the name 6 standing for any");
        TransletDesk d = new TransletDesk();
        d.insert(0, 0, 0);
        for (int name = 0; name <= 5; name++) {
            d.insert(0, name, name);
        }
        for (int name = 0; name <= 5; name++) {
            Due.put(d, 0, STEP, Due.step(1, name, 0), HERE, 0);
            Due.set("the name " + name, d, 0, 0, name + 1);
        }
        Due.put(d, 0, STEP, CHILDREN, HERE, 0);
        Due.set("any name", d, 0, 0, 1, 2, 3, 4, 5, 6);
    }

    private static void anyInt() {
        Due.part("Terms: NUM (any int)");
        TransletDesk d = Due.tree();
        int[] numbers = {LEAST, LEAST + 1, -1, 0, 1, 384, GREATEST - 1, GREATEST};
        for (int number : numbers) {
            Due.same("NUM " + number, Due.put(d, 0, NUM, number), NUMBER);
            Due.same("NUM " + number, d.number(0, 0), number);
        }
    }

    private static void positionAndLastAlone() {
        Due.part("Terms: POSITION and LAST (both 1, unless it is a test)");
        TransletDesk d = Due.tree();
        Due.put(d, 0, Due.POSITION, 0);
        Due.put(d, 1, Due.LAST, 0);
        Due.put(d, 2, Due.ADD, 0, Due.POSITION, 0, Due.COUNT, 0, STEP, CHILDREN_1, HERE, 0, NUM, 3);
        Due.put(d, 3, Due.ADD, 0, Due.COUNT, 0, STEP, CHILDREN_1, HERE, 0, NUM, 3, Due.LAST, 0);
        for (int node = 0; node < 8; node++) {
            Due.same("POSITION at " + node, d.number(0, node), 1);
            Due.same("LAST at " + node, d.number(1, node), 1);
            Due.same("POSITION beside a test at " + node, d.number(2, node), node == 0 ? 2 : 1);
            Due.same("LAST behind a test at " + node, d.number(3, node), node == 0 ? 2 : 1);
        }
        Due.put(d, 4, Due.SAME, 0, Due.POSITION, 0, NUM, 1);
        Due.put(d, 5, Due.SAME, 0, Due.LAST, 0, NUM, 1);
        Due.yes("holds: POSITION is 1", d.holds(4, 5));
        Due.yes("holds: LAST is 1", d.holds(5, 5));
        Due.yes("holds: LAST is 1 at the root", d.holds(5, 0));
    }

    private static void hereAndRoot() {
        Due.part("Terms: HERE is this node alone, ROOT the root");
        TransletDesk d = Due.tree();
        Due.put(d, 0, HERE, 0);
        Due.put(d, 1, ROOT, 0);
        for (int node = 0; node < 8; node++) {
            Due.set("HERE", d, 0, node, node);
            Due.set("ROOT", d, 1, node, 0);
        }
        Due.put(d, 2, STEP, Due.step(9, Due.ANY, 1), ROOT, 0, Due.SAME, 0, HERE, 0, NUM, 60);
        Due.set("in a test HERE is the tested node", d, 2, 1, 6);
        Due.put(d, 2, STEP, Due.step(3, Due.ANY, 1), ROOT, 0, Due.SAME, 0, ROOT, 0, NUM, 0);
        Due.set("in a test ROOT is the root", d, 2, 1, 1, 4, 3, 2, 6, 7, 5);
    }

    private static void stepFromNone() {
        Due.part("Terms: STEP from an empty set");
        TransletDesk d = Due.tree();
        for (int axis = 0; axis <= 10; axis++) {
            Due.put(d, 0, STEP, Due.step(axis, Due.ANY, 0), STEP, CHILDREN, HERE, 0);
            Due.set("axis " + axis, d, 0, 5);
        }
        Due.put(d, 0, STEP, Due.step(9, Due.ANY, 1), STEP, CHILDREN, HERE, 0, Due.NOT, 0, NUM, 0);
        Due.set("with a test that is true", d, 0, 5);
        Due.put(d, 0, Due.UNION, 0, STEP, CHILDREN, HERE, 0, STEP, CHILDREN, HERE, 0);
        Due.set("UNION of none and none", d, 0, 5);
        Due.put(d, 0, Due.UNION, 0, STEP, CHILDREN, HERE, 0, HERE, 0);
        Due.set("UNION of none and one", d, 0, 5, 5);
        Due.put(d, 0, Due.UNION, 0, HERE, 0, STEP, CHILDREN, HERE, 0);
        Due.set("UNION of one and none", d, 0, 5, 5);
        Due.put(d, 0, Due.UNION, 0, HERE, 0, HERE, 0);
        Due.set("UNION of the same", d, 0, 5, 5);
    }

    private static void listForEachNode() {
        Due.part("Terms: for each node of S .. a list; what stays of all lists is the set");
        TransletDesk d = Due.tree();
        Due.put(d, 0, STEP, CHILDREN_1, STEP, ALL, HERE, 0, NUM, 1);
        Due.set("the first child of each", d, 0, 0, 1, 4, 6);
        Due.put(d, 0, STEP, Due.step(3, Due.ANY, 1), STEP, ALL, HERE, 0, NUM, 7);
        Due.set("the seventh of all below, of one list", d, 0, 0, 5);
        Due.put(d, 0, STEP, Due.step(4, Due.ANY, 1), STEP, ALL, HERE, 0, NUM, 2);
        Due.set("in two lists the second, in others the first", d, 0, 0, 0);
        Due.put(d, 0, Due.COUNT, 0, STEP, Due.step(4, Due.ANY, 0), STEP, ALL, HERE, 0);
        Due.same("in several lists, but once in the set", d.number(0, 0), 3);
        Due.put(d, 0, STEP, Due.step(5, Due.ANY, 1), STEP, CHILDREN, HERE, 0, NUM, 1);
        Due.set("what one list drops another may keep", d, 0, 0, 2, 5);
    }

    private static void placeBeforeThisTest() {
        Due.part("Terms: POSITION their place in the list as it is before this test (1 the first)");
        TransletDesk d = Due.flat(4);
        for (int place = 0; place <= 5; place++) {
            Due.put(d, 0, STEP, CHILDREN_1, HERE, 0, Due.SAME, 0, Due.POSITION, 0, NUM, place);
            if (place >= 1 && place <= 4) {
                Due.set("place " + place, d, 0, 0, place);
            } else {
                Due.set("place " + place, d, 0, 0);
            }
        }
        Due.put(d, 0, STEP, CHILDREN_1, HERE, 0, Due.LESS, 0, NUM, 2, Due.POSITION, 0);
        Due.set("those that go do not shift those behind", d, 0, 0, 3, 4);
        Due.put(d, 0, STEP, CHILDREN_2, HERE, 0,
            Due.LESS, 0, NUM, 2, Due.POSITION, 0, Due.SAME, 0, Due.POSITION, 0, NUM, 1);
        Due.set("before the second test they have places anew", d, 0, 0, 3);
        Due.put(d, 0, STEP, CHILDREN_2, HERE, 0,
            Due.LESS, 0, NUM, 2, Due.POSITION, 0, Due.SAME, 0, Due.POSITION, 0, NUM, 3);
        Due.set("there is no third then", d, 0, 0);
        d.change(1, 1, 0);
        d.change(3, 1, 0);
        Due.put(d, 0, STEP, Due.step(1, 1, 1), HERE, 0, NUM, 2);
        Due.set("those with another name have no place", d, 0, 0, 3);
    }

    private static void lengthBeforeThisTest() {
        Due.part("Terms: LAST its length");
        TransletDesk d = Due.flat(4);
        for (int length = 3; length <= 5; length++) {
            Due.put(d, 0, STEP, CHILDREN_1, HERE, 0, Due.SAME, 0, Due.LAST, 0, NUM, length);
            Due.same("the length is " + length, d.size(0, 0), length == 4 ? 4 : 0);
        }
        Due.put(d, 0, STEP, CHILDREN_2, HERE, 0,
            Due.LESS, 0, NUM, 2, Due.POSITION, 0, Due.SAME, 0, Due.LAST, 0, NUM, 2);
        Due.set("before the second test it is 2", d, 0, 0, 3, 4);
        Due.put(d, 0, STEP, CHILDREN_2, HERE, 0, NUM, 2, Due.LAST, 0);
        Due.set("of one the last is the first", d, 0, 0, 2);
        d.change(1, 1, 0);
        d.change(3, 1, 0);
        Due.put(d, 0, STEP, Due.step(1, 1, 1), HERE, 0, Due.SAME, 0, Due.LAST, 0, NUM, 2);
        Due.set("those with another name do not count", d, 0, 0, 1, 3);
        Due.put(d, 0, STEP, Due.step(1, 5, 1), HERE, 0, Due.SAME, 0, Due.LAST, 0, NUM, 0);
        Due.set("an empty list has nothing to test", d, 0, 0);
    }

    /** From 5 the axes 6 and 8, from 7 the axes 4 and 10 have several nodes. */
    private static void orderOfTheAxis() {
        Due.part("Terms: in the order of the axis; turned round: 2, 4, 6, 8, 10");
        int[][] along = {{5}, {}, {0}, {}, {0}, {}, {2, 1}, {}, {7, 6, 2, 3, 4, 1}, {5}, {5, 0}};
        int[][] along7 = {{7}, {}, {2}, {}, {2, 0}, {}, {6}, {5}, {6, 3, 4, 1}, {7}, {7, 2, 0}};
        int[][] along1 = {{1}, {4, 3}, {0}, {4, 3}, {0}, {2, 5}, {}, {2, 6, 7, 5}, {}, {1, 4, 3},
            {1, 0}};
        for (int axis = 0; axis <= 10; axis++) {
            TransletDesk d = Due.tree();
            for (int place = 1; place <= 6; place++) {
                Due.put(d, 0, STEP, Due.step(axis, Due.ANY, 1), HERE, 0, NUM, place);
                checkPlace(d, axis, place, 5, along[axis]);
                checkPlace(d, axis, place, 7, along7[axis]);
                checkPlace(d, axis, place, 1, along1[axis]);
            }
        }
    }

    private static void checkPlace(TransletDesk d, int axis, int place, int node, int[] along) {
        String what = "axis " + axis + ", place " + place;
        if (place <= along.length) {
            Due.set(what, d, 0, node, along[place - 1]);
        } else {
            Due.set(what, d, 0, node);
        }
    }

    private static void numberAsTest() {
        Due.part("Terms: E holds: if it is a number, if it is POSITION");
        TransletDesk d = Due.flat(3);
        int[] never = {0, -1, 4, LEAST, GREATEST};
        for (int number : never) {
            Due.put(d, 0, STEP, CHILDREN_1, HERE, 0, NUM, number);
            Due.set("NUM " + number, d, 0, 0);
        }
        Due.put(d, 0, STEP, CHILDREN_1, HERE, 0, NUM, 1);
        Due.set("NUM 1", d, 0, 0, 1);
        Due.put(d, 0, STEP, CHILDREN_1, HERE, 0, NUM, 3);
        Due.set("NUM 3", d, 0, 0, 3);
        Due.put(d, 0, STEP, CHILDREN_1, HERE, 0, Due.POSITION, 0);
        Due.set("POSITION", d, 0, 0, 1, 2, 3);
        Due.put(d, 0, STEP, CHILDREN_1, HERE, 0, Due.LAST, 0);
        Due.set("LAST", d, 0, 0, 3);
        d.change(2, 0, 2);
        d.change(3, 0, 2);
        Due.put(d, 0, STEP, CHILDREN_1, HERE, 0, Due.VALUE, 0, HERE, 0);
        Due.set("VALUE: a number, where HERE would be a set", d, 0, 0, 2);
        Due.put(d, 0, STEP, CHILDREN_1, HERE, 0, Due.ADD, 0, NUM, GREATEST, NUM, LEAST + 3);
        Due.set("a sum", d, 0, 0, 2);
        Due.put(d, 0, STEP, CHILDREN_1, HERE, 0, Due.ADD, 0, NUM, GREATEST, NUM, GREATEST);
        Due.set("a sum that wraps to -2", d, 0, 0);
        Due.put(d, 0, STEP, CHILDREN_1, HERE, 0, Due.SUB, 0, NUM, LEAST, NUM, GREATEST);
        Due.set("a difference that wraps to 1", d, 0, 0, 1);
    }

    private static void truthAsTest() {
        Due.part("Terms: E holds: if it is a truth, if it is true");
        TransletDesk d = Due.flat(3);
        Due.put(d, 0, STEP, CHILDREN_1, HERE, 0, Due.NOT, 0, NUM, 0);
        Due.set("true: no place, though it counts as 1", d, 0, 0, 1, 2, 3);
        Due.put(d, 0, STEP, CHILDREN_1, HERE, 0, Due.NOT, 0, NUM, 1);
        Due.set("false", d, 0, 0);
        Due.put(d, 0, STEP, CHILDREN_1, HERE, 0, Due.LESS, 0, Due.POSITION, 0, Due.LAST, 0);
        Due.set("all but the last", d, 0, 0, 1, 2);
        Due.put(d, 0, STEP, CHILDREN_1, HERE, 0, Due.AND, 0, NUM, 2, NUM, 3);
        Due.set("in AND a number is no place", d, 0, 0, 1, 2, 3);
        Due.put(d, 0, STEP, CHILDREN_1, HERE, 0, Due.OR, 0, NUM, 0, NUM, 3);
        Due.set("in OR a number is no place", d, 0, 0, 1, 2, 3);
        Due.put(d, 0, STEP, CHILDREN_1, HERE, 0, Due.NOT, 0, NUM, 2);
        Due.set("in NOT a number is no place", d, 0, 0);
    }

    private static void setAsTest() {
        Due.part("Terms: E holds: if it is a set, if that is not empty");
        TransletDesk d = Due.tree();
        Due.put(d, 0, STEP, Due.step(9, Due.ANY, 1), HERE, 0, STEP, CHILDREN, HERE, 0);
        Due.set("those with children", d, 0, 0, 0, 1, 2);
        Due.put(d, 0, STEP, CHILDREN_1, HERE, 0, ROOT, 0);
        Due.set("a set whose value is 0", d, 0, 0, 1, 2, 5);
        d.change(1, 1, 3);
        d.change(2, 2, 3);
        Due.put(d, 0, STEP, CHILDREN_1, HERE, 0, HERE, 0);
        Due.set("a set's value is no place", d, 0, 0, 1, 2, 5);
        Due.put(d, 0, STEP, CHILDREN_1, HERE, 0, STEP, Due.step(0, 5, 0), HERE, 0);
        Due.set("empty for all", d, 0, 0);
        Due.put(d, 0, STEP, CHILDREN_1, HERE, 0,
            Due.UNION, 0, STEP, Due.step(0, 1, 0), HERE, 0, STEP, Due.step(5, Due.ANY, 0), HERE, 0);
        Due.set("a union, empty for the last alone", d, 0, 0, 1, 2);
    }

    private static void countOfNone() {
        Due.part("Terms: COUNT: how many nodes");
        TransletDesk d = Due.flat(23);
        Due.put(d, 0, Due.COUNT, 0, STEP, ALL, HERE, 0);
        Due.same("all 24", d.number(0, 0), 24);
        Due.same("one", d.number(0, 23), 1);
        Due.put(d, 0, Due.COUNT, 0, STEP, CHILDREN, HERE, 0);
        Due.same("23", d.number(0, 0), 23);
        Due.same("none", d.number(0, 23), 0);
        Due.no("none is not true", d.holds(0, 23));
        Due.put(d, 0, Due.COUNT, 0, Due.UNION, 0, STEP, ALL, HERE, 0, STEP, ALL, ROOT, 0);
        Due.same("each but once", d.number(0, 0), 24);
    }

    private static void sumOfNoneAndWrapping() {
        Due.part("Terms: SUM: of all their values (wrapping)");
        TransletDesk d = Due.flat(3);
        Due.put(d, 0, Due.SUM, 0, STEP, CHILDREN, HERE, 0);
        Due.same("of none", d.number(0, 1), 0);
        Due.same("of 0, 0, 0", d.number(0, 0), 0);
        d.change(1, 0, GREATEST);
        Due.same("the greatest", d.number(0, 0), GREATEST);
        d.change(2, 0, 1);
        Due.same("one more", d.number(0, 0), LEAST);
        d.change(3, 0, -1);
        Due.same("and back", d.number(0, 0), GREATEST);
        d.change(1, 0, LEAST);
        d.change(2, 0, LEAST);
        Due.same("twice the least and -1", d.number(0, 0), -1);
        d.change(3, 0, LEAST);
        Due.same("three times the least", d.number(0, 0), LEAST);
        Due.put(d, 0, Due.SUM, 0, Due.UNION, 0, HERE, 0, HERE, 0);
        Due.same("each but once", d.number(0, 3), LEAST);
        d.change(0, 0, 5);
        Due.same("the root alone", d.number(0, 0), 5);
        d.change(3, 0, 9);
        Due.put(d, 0, Due.SUM, 0, Due.UNION, 0, ROOT, 0, HERE, 0);
        Due.same("the root and another, without the others", d.number(0, 3), 14);
    }

    private static void valueOfNone() {
        Due.part("Terms: VALUE: that of the first in document order, 0 if there is none");
        TransletDesk d = Due.tree();
        Due.put(d, 0, Due.VALUE, 0, STEP, CHILDREN, HERE, 0);
        Due.same("the first child, not the least number", d.number(0, 1), 40);
        Due.same("none", d.number(0, 5), 0);
        Due.put(d, 0, Due.VALUE, 0, STEP, Due.step(8, Due.ANY, 0), HERE, 0);
        Due.same("not the first of the axis", d.number(0, 5), 10);
        Due.same("none", d.number(0, 0), 0);
        Due.put(d, 0, Due.VALUE, 0, Due.UNION, 0, STEP, CHILDREN, HERE, 0, ROOT, 0);
        d.change(0, 0, -8);
        Due.same("not the first of the union", d.number(0, 1), -8);
        d.change(4, 0, LEAST);
        Due.put(d, 0, Due.VALUE, 0, STEP, CHILDREN, HERE, 0);
        Due.same("the least value", d.number(0, 1), LEAST);
    }

    private static void setAsNumber() {
        Due.part("Terms: a set as N of ADD, SUB, MUL counts so");
        TransletDesk d = Due.tree();
        int[] first = {40 + 3, 40 - 3, 40 * 3};
        int[] behind = {3 + 40, 3 - 40, 3 * 40};
        int[] firstOfNone = {3, -3, 0};
        int[] behindNone = {3, 3, 0};
        for (int i = 0; i < 3; i++) {
            int kind = Due.ADD + i;
            Due.put(d, 0, kind, 0, STEP, CHILDREN, HERE, 0, NUM, 3);
            Due.same("kind " + kind + " of a set", d.number(0, 1), first[i]);
            Due.same("kind " + kind + " of none", d.number(0, 5), firstOfNone[i]);
            Due.put(d, 0, kind, 0, NUM, 3, STEP, CHILDREN, HERE, 0);
            Due.same("kind " + kind + " with a set", d.number(0, 1), behind[i]);
            Due.same("kind " + kind + " with none", d.number(0, 5), behindNone[i]);
            Due.put(d, 0, kind, 0, STEP, CHILDREN, HERE, 0, STEP, CHILDREN, HERE, 0);
            Due.same("kind " + kind + " of none with none", d.number(0, 5), 0);
        }
        Due.put(d, 0, Due.SUB, 0, STEP, CHILDREN, HERE, 0, STEP, Due.step(8, Due.ANY, 0), HERE, 0);
        Due.same("both sets", d.number(0, 2), 60 - 10);
    }

    private static void wrapping() {
        Due.part("Terms: wrapping, as all arithmetic");
        int[][] cases = {
            {Due.ADD, GREATEST, 1, LEAST}, {Due.ADD, LEAST, -1, GREATEST},
            {Due.ADD, LEAST, LEAST, 0}, {Due.ADD, GREATEST, GREATEST, -2},
            {Due.SUB, LEAST, 1, GREATEST}, {Due.SUB, GREATEST, -1, LEAST},
            {Due.SUB, 0, LEAST, LEAST}, {Due.SUB, -1, LEAST, GREATEST},
            {Due.MUL, 65536, 65536, 0}, {Due.MUL, LEAST, -1, LEAST},
            {Due.MUL, GREATEST, GREATEST, 1}, {Due.MUL, 65536, 32768, LEAST},
            {Due.MUL, 100000, 100000, 1410065408}, {Due.MUL, LEAST, 2, 0}};
        TransletDesk d = Due.tree();
        for (int[] each : cases) {
            Due.put(d, 0, each[0], 0, NUM, each[1], NUM, each[2]);
            String what = "kind " + each[0] + " of " + each[1] + " and " + each[2];
            Due.same(what, d.number(0, 0), each[3]);
            Due.same(what + " is true", d.holds(0, 0) ? 1 : 0, each[3] != 0 ? 1 : 0);
        }
        d.change(6, 0, GREATEST);
        Due.put(d, 0, Due.ADD, 0, HERE, 0, NUM, 1);
        Due.same("with a set", d.number(0, 6), LEAST);
        Due.put(d, 0, Due.LESS, 0, Due.ADD, 0, NUM, GREATEST, NUM, 1, NUM, 0);
        Due.yes("what has wrapped is less than 0", d.holds(0, 0));
    }

    private static void comparedNumbers() {
        Due.part("Terms: LESS, SAME: if neither is a set, of the numbers");
        int[] numbers = {LEAST, -1, 0, 1, GREATEST};
        TransletDesk d = Due.tree();
        for (int a : numbers) {
            for (int b : numbers) {
                Due.put(d, 0, Due.LESS, 0, NUM, a, NUM, b);
                Due.same(a + " < " + b, d.number(0, 0), a < b ? 1 : 0);
                Due.put(d, 0, Due.SAME, 0, NUM, a, NUM, b);
                Due.same(a + " = " + b, d.number(0, 0), a == b ? 1 : 0);
            }
        }
    }

    private static void comparedWithNone() {
        Due.part("Terms: LESS, SAME: whether there is a node in the set, so none never fulfils");
        TransletDesk d = Due.tree();
        for (int kind = Due.LESS; kind <= Due.SAME; kind++) {
            int[] numbers = {-1, 0, 1, LEAST, GREATEST};
            for (int number : numbers) {
                Due.put(d, 0, kind, 0, STEP, CHILDREN, HERE, 0, NUM, number);
                Due.no("kind " + kind + " of none and " + number, d.holds(0, 5));
                Due.put(d, 0, kind, 0, NUM, number, STEP, CHILDREN, HERE, 0);
                Due.no("kind " + kind + " of " + number + " and none", d.holds(0, 5));
            }
            Due.put(d, 0, kind, 0, STEP, CHILDREN, HERE, 0, HERE, 0);
            Due.no("kind " + kind + " of none and a set", d.holds(0, 5));
            Due.put(d, 0, kind, 0, HERE, 0, STEP, CHILDREN, HERE, 0);
            Due.no("kind " + kind + " of a set and none", d.holds(0, 5));
            Due.put(d, 0, kind, 0, STEP, CHILDREN, HERE, 0, STEP, CHILDREN, HERE, 0);
            Due.no("kind " + kind + " of none and none", d.holds(0, 5));
        }
    }

    /** The children of 0 have the values 10, 20, 50, those of 1 have 40, 30. */
    private static void comparedWithSets() {
        Due.part("Terms: LESS, SAME: a node in the set (in each, if both are sets)");
        TransletDesk d = Due.tree();
        int[][] cases = {{Due.LESS, 10, 0, 1}, {Due.LESS, 11, 1, 1}, {Due.LESS, 49, 1, 1},
            {Due.LESS, 50, 1, 0}, {Due.LESS, 9, 0, 1}, {Due.SAME, 10, 1, 1}, {Due.SAME, 20, 1, 1},
            {Due.SAME, 50, 1, 1}, {Due.SAME, 0, 0, 0}, {Due.SAME, 15, 0, 0}};
        for (int[] each : cases) {
            String what = "kind " + each[0] + " with " + each[1];
            Due.put(d, 0, each[0], 0, STEP, CHILDREN, HERE, 0, NUM, each[1]);
            Due.same(what + " behind", d.number(0, 0), each[2]);
            Due.put(d, 0, each[0], 0, NUM, each[1], STEP, CHILDREN, HERE, 0);
            Due.same(what + " in front", d.number(0, 0), each[3]);
        }
        int siblings = Due.step(6, Due.ANY, 0);
        Due.put(d, 0, Due.LESS, 0, STEP, siblings, HERE, 0, STEP, CHILDREN, HERE, 0);
        Due.yes("10 < 60", d.holds(0, 2));
        Due.put(d, 0, Due.LESS, 0, STEP, CHILDREN, HERE, 0, STEP, siblings, HERE, 0);
        Due.no("60, 70 < 10", d.holds(0, 2));
        Due.put(d, 0, Due.SAME, 0, STEP, CHILDREN, HERE, 0, STEP, CHILDREN, ROOT, 0);
        Due.yes("the same set", d.holds(0, 0));
        Due.no("40, 30 = 10, 20, 50", d.holds(0, 1));
        d.change(3, 0, 50);
        Due.yes("the last of one is the last of the other", d.holds(0, 1));
        Due.put(d, 0, Due.LESS, 0, HERE, 0, HERE, 0);
        Due.no("no value is less than itself", d.holds(0, 1));
        Due.put(d, 0, Due.SAME, 0, Due.UNION, 0, ROOT, 0, HERE, 0, NUM, 20);
        Due.yes("a union in front", d.holds(0, 2));
        Due.put(d, 0, Due.SAME, 0, NUM, 20, Due.UNION, 0, ROOT, 0, HERE, 0);
        Due.yes("a union behind", d.holds(0, 2));
        Due.no("a union without it", d.holds(0, 1));
        Due.put(d, 0, Due.LESS, 0, STEP, CHILDREN, HERE, 0, STEP, CHILDREN, HERE, 0);
        Due.yes("but than another of the same set", d.holds(0, 1));
    }

    private static void andOrNot() {
        Due.part("Terms: AND, OR, NOT: of whether E is true, a set not empty, a number not 0");
        TransletDesk d = Due.tree();
        d.change(0, 0, 0);
        // Each row: 1 if it is true, then the tokens of an E.
        int[][] parts = {{1, NUM, 1}, {1, NUM, -1}, {1, NUM, LEAST}, {0, NUM, 0}, {1, ROOT, 0},
            {0, STEP, CHILDREN, HERE, 0}, {1, Due.UNION, 0, ROOT, 0, ROOT, 0},
            {1, Due.NOT, 0, NUM, 0}, {0, Due.NOT, 0, NUM, 1}};
        for (int[] a : parts) {
            d.token(Due.NOT, 0);
            draft(d, a);
            d.expression(0);
            Due.same("NOT " + a[1] + " " + a[2], d.number(0, 5), 1 - a[0]);
        }
        for (int[] a : parts) {
            d = Due.tree();
            for (int[] b : parts) {
                String what = a[1] + " " + a[2] + " and " + b[1] + " " + b[2];
                d.token(Due.AND, 0);
                draft(d, a);
                draft(d, b);
                d.expression(0);
                Due.same("AND of " + what, d.number(0, 5), a[0] & b[0]);
                d.token(Due.OR, 0);
                draft(d, a);
                draft(d, b);
                d.expression(0);
                Due.same("OR of " + what, d.number(0, 5), a[0] | b[0]);
            }
        }
    }

    private static void draft(TransletDesk d, int[] part) {
        for (int i = 1; i + 1 < part.length; i += 2) {
            d.token(part[i], part[i + 1]);
        }
    }

    // ---- Terms: axes ----

    /** At the root, at a leaf, at a first and at a last sibling of the tree of the tests. */
    private static void axesAtTheEnds() {
        Due.part("Terms: axes, where nothing is along them");
        int[][] rootAlong = {{0}, {1, 2, 5}, {}, {1, 4, 3, 2, 6, 7, 5}, {}, {}, {}, {}, {},
            {0, 1, 4, 3, 2, 6, 7, 5}, {0}};
        int[][] firstLeafAlong = {{4}, {}, {1}, {}, {0, 1}, {3}, {}, {3, 2, 6, 7, 5}, {}, {4},
            {0, 1, 4}};
        int[][] lastLeafAlong = {{5}, {}, {0}, {}, {0}, {}, {1, 2}, {}, {1, 4, 3, 2, 6, 7}, {5},
            {0, 5}};
        int[][] middleAlong = {{2}, {6, 7}, {0}, {6, 7}, {0}, {5}, {1}, {5}, {1, 4, 3}, {2, 6, 7},
            {0, 2}};
        for (int axis = 0; axis <= 10; axis++) {
            TransletDesk d = Due.tree();
            Due.put(d, 0, STEP, Due.step(axis, Due.ANY, 0), HERE, 0);
            Due.set("axis " + axis, d, 0, 0, rootAlong[axis]);
            Due.set("axis " + axis, d, 0, 4, firstLeafAlong[axis]);
            Due.set("axis " + axis, d, 0, 5, lastLeafAlong[axis]);
            Due.set("axis " + axis, d, 0, 2, middleAlong[axis]);
        }
    }

    private static void axesOfRootAlone() {
        Due.part("Terms: axes of a root alone");
        for (int axis = 0; axis <= 10; axis++) {
            TransletDesk d = Due.flat(0);
            Due.put(d, 0, STEP, Due.step(axis, Due.ANY, 0), HERE, 0);
            boolean itself = axis == 0 || axis == 9 || axis == 10;
            Due.same("axis " + axis, d.size(0, 0), itself ? 1 : 0);
            Due.same("axis " + axis, d.at(0, 0, 0), itself ? 0 : REFUSED);
        }
    }

    // ---- promises 7 and 8 ----

    private static void kindOfToken() {
        Due.part("promise 7: REFUSED if kind is not as said");
        TransletDesk d = Due.tree();
        int[] odd = {-1, -2, 18, 19, 32, 64, LEAST, GREATEST};
        for (int kind : odd) {
            Due.same("token(" + kind + ", 0)", d.token(kind, 0), REFUSED);
        }
        for (int kind = 0; kind <= 17; kind++) {
            Due.same("token(" + kind + ", 0)", d.token(kind, 0), kind + 1);
        }
        for (int kind : odd) {
            Due.same("token(" + kind + ", 0)", d.token(kind, 0), REFUSED);
        }
        Due.same("none of those was appended", d.token(0, 0), 19);
    }

    private static void valueOfStep() {
        Due.part("promise 7: REFUSED if a value of STEP (axis 0 .. 10, name 0 .. 6, tests 0 .. 2)");
        for (int axis = 0; axis <= 15; axis++) {
            TransletDesk d = Due.tree();
            int taken = 0;
            for (int name = 0; name <= 7; name++) {
                for (int tests = 0; tests <= 4; tests++) {
                    boolean fine = axis <= 10 && name <= 6 && tests <= 2;
                    taken += fine ? 1 : 0;
                    Due.same("axis " + axis + ", name " + name + ", tests " + tests,
                        d.token(STEP, Due.step(axis, name, tests)), fine ? taken : REFUSED);
                }
            }
        }
        TransletDesk d = Due.tree();
        int[] odd = {-1, -16, -118, -128, -129, 384, 512, LEAST, LEAST + ALL, GREATEST};
        for (int value : odd) {
            Due.same("STEP " + value, d.token(STEP, value), REFUSED);
        }
        for (int bit = 9; bit < 32; bit++) {
            Due.same("STEP with bit " + bit, d.token(STEP, ALL + (1 << bit)), REFUSED);
        }
        Due.same("none of those was appended", d.token(STEP, 0), 1);
        Due.same("the greatest value", d.token(STEP, Due.step(10, 6, 2)), 2);
    }

    private static void draftOfForty() {
        Due.part("promise 7: REFUSED if there are 40");
        TransletDesk d = Due.tree();
        for (int i = 1; i <= 39; i++) {
            Due.same("token " + i, d.token(Due.NOT, 0), i);
        }
        Due.same("token 40", d.token(NUM, 5), 40);
        Due.same("token 41", d.token(NUM, 5), REFUSED);
        Due.same("token 41", d.token(Due.NOT, 0), REFUSED);
        Due.same("token 41 of no kind", d.token(18, 0), REFUSED);
        Due.same("the 40 are whole", d.expression(0), TRUTH);
        Due.no("39 times not of 5", d.holds(0, 0));
        Due.same("the draft begins anew", d.token(NUM, 5), 1);
    }

    private static void refusedTokenIsNotAppended() {
        Due.part("promise 7: appends a token to the draft: how many there are");
        TransletDesk d = Due.tree();
        Due.same("ADD", d.token(Due.ADD, 0), 1);
        Due.same("no kind", d.token(18, 0), REFUSED);
        Due.same("NUM", d.token(NUM, 4), 2);
        Due.same("no axis", d.token(STEP, 11), REFUSED);
        Due.same("NUM", d.token(NUM, 5), 3);
        Due.same("no kind", d.token(-1, 0), REFUSED);
        Due.same("whole", d.expression(0), NUMBER);
        Due.same("4 + 5", d.number(0, 0), 9);
    }

    private static void noSuchSlot() {
        Due.part("promise 8: REFUSED, and the draft stays, if there is no such slot");
        TransletDesk d = Due.tree();
        for (int slot : NO_SLOTS) {
            Due.same("expression(" + slot + ") of an empty draft", d.expression(slot), REFUSED);
        }
        d.token(Due.SUB, 0);
        for (int slot : NO_SLOTS) {
            Due.same("expression(" + slot + ")", d.expression(slot), REFUSED);
        }
        Due.same("one more", d.token(NUM, 9), 2);
        Due.same("one more", d.token(NUM, 2), 3);
        for (int slot : NO_SLOTS) {
            Due.same("expression(" + slot + ")", d.expression(slot), REFUSED);
        }
        for (int slot = 0; slot < 8; slot++) {
            Due.same("no slot was filled: " + slot, d.number(slot, 0), 0);
        }
        Due.same("slot 7", d.expression(7), NUMBER);
        Due.same("9 - 2", d.number(7, 0), 7);
        Due.put(d, 0, NUM, 3);
        Due.same("slot 0", d.number(0, 0), 3);
    }

    private static void noSuchSlotForWrongDraft() {
        Due.part("promise 8: REFUSED, and the draft stays, also one that is no expression");
        TransletDesk d = Due.tree();
        d.token(NUM, 1);
        d.token(NUM, 2);
        for (int slot : NO_SLOTS) {
            Due.same("expression(" + slot + ")", d.expression(slot), REFUSED);
        }
        Due.same("there are two still", d.token(NUM, 3), 3);
        Due.same("in a slot it is WRONG", d.expression(0), WRONG);
        Due.same("then it is empty", d.token(NUM, 3), 1);
    }

    private static void draftIsEmptyThen() {
        Due.part("promise 8: the draft, which is empty then");
        TransletDesk d = Due.tree();
        for (int slot = 0; slot < 8; slot++) {
            Due.same("token", d.token(NUM, slot + 20), 1);
            Due.same("expression(" + slot + ")", d.expression(slot), NUMBER);
            Due.same("nothing is left", d.expression(slot), WRONG);
        }
        Due.same("a new draft", d.token(NUM, 99), 1);
        for (int slot = 0; slot < 8; slot++) {
            Due.same("the draft is not the slot " + slot, d.number(slot, 0), slot + 20);
        }
    }

    private static void slotStaysAfterWrong() {
        Due.part("promise 8: WRONG, and the slot stays, if it is no expression");
        TransletDesk d = Due.tree();
        Due.put(d, 3, STEP, CHILDREN_1, HERE, 0, NUM, 2);
        Due.same("none", d.expression(3), WRONG);
        Due.same("one too many", Due.put(d, 3, ROOT, 0, ROOT, 0), WRONG);
        Due.same("one too few", Due.put(d, 3, STEP, ALL), WRONG);
        Due.same("another type", Due.put(d, 3, STEP, CHILDREN_1, NUM, 1, NUM, 1), WRONG);
        Due.same("wrong at its end", Due.put(d, 3, Due.UNION, 0, ROOT, 0, NUM, 1), WRONG);
        for (int i = 0; i < 40; i++) {
            d.token(Due.NOT, 0);
        }
        Due.same("40 without an end", d.expression(3), WRONG);
        Due.set("the slot", d, 3, 0, 2);
        Due.set("the slot", d, 3, 1, 3);
        Due.same("an empty slot stays, too", Due.put(d, 4, ROOT, 0, ROOT, 0), WRONG);
        Due.same("size(4, 0)", d.size(4, 0), REFUSED);
    }

    private static void draftIsEmptyAfterWrong() {
        Due.part("promise 18: expression: the draft is empty after WRONG, too");
        TransletDesk d = Due.tree();
        d.token(Due.ADD, 0);
        d.token(NUM, 1);
        Due.same("one too few", d.expression(0), WRONG);
        Due.same("what was missing comes too late", Due.put(d, 0, NUM, 2), NUMBER);
        Due.same("it is for itself", d.number(0, 0), 2);
        for (int i = 0; i < 40; i++) {
            d.token(Due.NOT, 0);
        }
        Due.same("40 without an end", d.expression(0), WRONG);
        for (int i = 1; i <= 40; i++) {
            Due.same("there is room for 40 again", d.token(HERE, 0), i);
        }
        Due.same("and no more", d.token(HERE, 0), REFUSED);
        Due.same("40 with 39 too many", d.expression(0), WRONG);
        Due.same("empty", d.expression(0), WRONG);
        Due.same("the slot stays", d.number(0, 0), 2);
    }

    private static void slotIsReplaced() {
        Due.part("promise 8: becomes the expression of slot 0 .. 7: its type");
        TransletDesk d = Due.tree();
        for (int slot = 0; slot < 8; slot++) {
            Due.same("a set", Due.put(d, slot, STEP, CHILDREN_1, HERE, 0, NUM, 3), SET);
            Due.same("size", d.size(slot, 0), 1);
            Due.same("a shorter truth", Due.put(d, slot, Due.NOT, 0, HERE, 0), TRUTH);
            Due.same("size", d.size(slot, 0), REFUSED);
            Due.same("a shorter number", Due.put(d, slot, NUM, slot), NUMBER);
            Due.same("number", d.number(slot, 0), slot);
            Due.same("a longer set", Due.put(d, slot, STEP, CHILDREN, STEP, ALL, ROOT, 0), SET);
            Due.same("size", d.size(slot, 5), 7);
        }
        Due.put(d, 0, NUM, 77);
        Due.put(d, 7, NUM, 78);
        for (int slot = 1; slot < 7; slot++) {
            Due.same("the others stay: " + slot, d.size(slot, 5), 7);
        }
    }

    // ---- promises 9 to 12 ----

    /** A desk with a set in slot 0, a number in slot 1, a truth in slot 2, and none in 3 .. 7. */
    private static TransletDesk desk() {
        TransletDesk d = Due.tree();
        Due.put(d, 0, STEP, CHILDREN, HERE, 0);
        Due.put(d, 1, NUM, 6);
        Due.put(d, 2, Due.NOT, 0, NUM, 0);
        return d;
    }

    private static void sizeRefused() {
        Due.part("promise 9: REFUSED if it is no set, or there is no such expression or node");
        TransletDesk d = desk();
        Due.same("a number", d.size(1, 0), REFUSED);
        Due.same("a truth", d.size(2, 0), REFUSED);
        for (int slot = 3; slot < 8; slot++) {
            Due.same("an empty slot " + slot, d.size(slot, 0), REFUSED);
        }
        for (int slot : NO_SLOTS) {
            Due.same("no slot " + slot, d.size(slot, 0), REFUSED);
        }
        for (int node : NO_NODES) {
            Due.same("no node " + node, d.size(0, node), REFUSED);
        }
        d.remove(2);
        Due.same("a node that is gone", d.size(0, 2), REFUSED);
        Due.same("a node that is gone with it", d.size(0, 6), REFUSED);
        d.remove(0);
        Due.same("the root is gone", d.size(0, 0), REFUSED);
    }

    private static void sizeOfNoneAndAll() {
        Due.part("promise 9: how many nodes are in the set");
        TransletDesk d = Due.flat(23);
        Due.put(d, 0, STEP, CHILDREN, HERE, 0);
        Due.put(d, 1, STEP, ALL, ROOT, 0);
        Due.same("23", d.size(0, 0), 23);
        Due.same("none", d.size(0, 23), 0);
        Due.same("all 24", d.size(1, 23), 24);
        for (int k = 0; k < 24; k++) {
            Due.same("at(1, 23, " + k + ")", d.at(1, 23, k), k);
        }
        Due.same("at(1, 23, 24)", d.at(1, 23, 24), REFUSED);
        d.remove(23);
        Due.same("one fewer", d.size(0, 0), 22);
    }

    private static void atRefused() {
        Due.part("promise 10: REFUSED likewise");
        TransletDesk d = desk();
        Due.same("a number", d.at(1, 0, 0), REFUSED);
        Due.same("a truth", d.at(2, 0, 0), REFUSED);
        for (int slot = 3; slot < 8; slot++) {
            Due.same("an empty slot " + slot, d.at(slot, 0, 0), REFUSED);
        }
        for (int slot : NO_SLOTS) {
            Due.same("no slot " + slot, d.at(slot, 0, 0), REFUSED);
        }
        for (int node : NO_NODES) {
            Due.same("no node " + node, d.at(0, node, 0), REFUSED);
        }
        d.remove(2);
        Due.same("a node that is gone", d.at(0, 2, 0), REFUSED);
        d.remove(0);
        Due.same("the root is gone", d.at(0, 0, 0), REFUSED);
    }

    private static void atOfNone() {
        Due.part("promise 10: the k-th (0 first) in document order; REFUSED if there is none");
        TransletDesk d = desk();
        Due.same("0 first", d.at(0, 1, 0), 4);
        Due.same("1", d.at(0, 1, 1), 3);
        int[] odd = {-1, 2, 3, 23, 24, 32, LEAST, GREATEST};
        for (int k : odd) {
            Due.same("k = " + k + " of two", d.at(0, 1, k), REFUSED);
            Due.same("k = " + k + " of none", d.at(0, 5, k), REFUSED);
        }
        Due.same("k = 0 of none", d.at(0, 5, 0), REFUSED);
        Due.put(d, 0, STEP, Due.step(8, Due.ANY, 0), HERE, 0);
        Due.set("in document order, not in that of the axis", d, 0, 7, 1, 4, 3, 6);
    }

    private static void numberOfNothing() {
        Due.part("promise 11: 0 if there is no such expression or node");
        TransletDesk d = desk();
        Due.same("there are both", d.number(1, 0), 6);
        for (int slot = 3; slot < 8; slot++) {
            Due.same("an empty slot " + slot, d.number(slot, 0), 0);
        }
        for (int slot : NO_SLOTS) {
            Due.same("no slot " + slot, d.number(slot, 0), 0);
        }
        for (int node : NO_NODES) {
            for (int slot = 0; slot < 3; slot++) {
                Due.same("slot " + slot + ", no node " + node, d.number(slot, node), 0);
            }
        }
        d.remove(2);
        Due.same("a node that is gone", d.number(1, 2), 0);
        Due.same("a node that is gone with it", d.number(2, 7), 0);
        d.remove(0);
        Due.same("the root is gone", d.number(1, 0), 0);
    }

    private static void numberOfTruth() {
        Due.part("promise 11: a set: VALUE, a truth: 1 or 0");
        TransletDesk d = desk();
        Due.same("a set", d.number(0, 2), 60);
        Due.same("a set that is empty", d.number(0, 3), 0);
        Due.same("true", d.number(2, 3), 1);
        Due.put(d, 2, Due.NOT, 0, NUM, LEAST);
        Due.same("false", d.number(2, 3), 0);
        Due.put(d, 2, Due.OR, 0, NUM, 5, NUM, 6);
        Due.same("true is 1, whatever it is made of", d.number(2, 3), 1);
        Due.put(d, 2, Due.AND, 0, NUM, 5, NUM, 6);
        Due.same("true is 1, whatever it is made of", d.number(2, 3), 1);
    }

    private static void holdsOfNothing() {
        Due.part("promise 12: false likewise");
        TransletDesk d = desk();
        Due.yes("there are both", d.holds(0, 0));
        for (int slot = 3; slot < 8; slot++) {
            Due.no("an empty slot " + slot, d.holds(slot, 0));
        }
        for (int slot : NO_SLOTS) {
            Due.no("no slot " + slot, d.holds(slot, 0));
        }
        for (int node : NO_NODES) {
            for (int slot = 0; slot < 3; slot++) {
                Due.no("slot " + slot + ", no node " + node, d.holds(slot, node));
            }
        }
        d.remove(2);
        Due.no("a node that is gone", d.holds(1, 2));
        Due.no("a node that is gone with it", d.holds(2, 7));
        d.remove(0);
        Due.no("the root is gone", d.holds(1, 0));
    }

    private static void holdsOfEachType() {
        Due.part("promise 12: a set: not empty, a number: not 0");
        TransletDesk d = desk();
        Due.yes("a set", d.holds(0, 0));
        Due.no("an empty set", d.holds(0, 5));
        Due.put(d, 0, ROOT, 0);
        Due.yes("a set whose value is 0", d.holds(0, 5));
        int[] numbers = {LEAST, -1, 0, 1, 2, 65536, GREATEST};
        for (int number : numbers) {
            Due.put(d, 1, NUM, number);
            Due.same("the number " + number, d.holds(1, 0) ? 1 : 0, number == 0 ? 0 : 1);
        }
        Due.put(d, 1, Due.VALUE, 0, ROOT, 0);
        Due.no("VALUE: a number that is 0", d.holds(1, 5));
        Due.put(d, 1, Due.POSITION, 0);
        Due.yes("POSITION is 1", d.holds(1, 5));
        Due.yes("a truth that is true", d.holds(2, 5));
        Due.put(d, 2, Due.NOT, 0, NUM, 1);
        Due.no("a truth that is false", d.holds(2, 5));
    }
}
