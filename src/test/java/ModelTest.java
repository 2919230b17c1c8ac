/** Runs of calls on the class and on its model: all answers are the same. */
public final class ModelTest {
    private static final int RUNS = 800;
    /** One more round takes at most 104 calls, and nothing is promised behind the 512th. */
    private static final int MOST_CALLS = 400;

    private long state;
    private TransletDesk desk;
    private DeskModel model;
    private int drafted;
    private int wanted;

    /** How often an answer of each kind was seen, to tell that the runs reach them all. */
    private static final int[] seen = new int[8];

    private ModelTest(long seed) {
        state = seed * 0x9E3779B97F4A7C15L + 1;
    }

    public static void main(String[] args) {
        for (int run = 0; run < RUNS; run++) {
            Due.part("run " + run);
            new ModelTest(run).run();
        }
        String[] names = {"sets of two and more", "numbers but 0 and 1", "truths", "matches",
            "numbers put out", "stalls", "wrong expressions", "moves"};
        for (int i = 0; i < names.length; i++) {
            if (seen[i] < 100) {
                Due.same("the runs see enough of: " + names[i], seen[i], 100);
            }
        }
        Due.end();
    }

    /** The same numbers each time: a counter, well stirred. */
    private int pick(int bound) {
        state = state * 6364136223846793005L + 1442695040888963407L;
        long mixed = state ^ state >>> 29;
        mixed = mixed * 0xBF58476D1CE4E5B9L;
        return (int) ((mixed >>> 33) % bound);
    }

    private void run() {
        desk = new TransletDesk();
        model = new DeskModel();
        int before = Due.compared();
        int first = pick(22);
        for (int i = 0; i < first; i++) {
            grow();
        }
        for (int slot = 0; slot < 8; slot++) {
            makeExpression(slot);
        }
        for (int t = 0; t < 6; t++) {
            makeTemplate();
        }
        while (Due.compared() - before < MOST_CALLS) {
            step();
        }
    }

    private void step() {
        int what = pick(16);
        if (what < 3) {
            grow();
        } else if (what == 3) {
            shrinkOrMove();
        } else if (what < 6) {
            makeExpression(pick(20) == 0 ? pick(12) - 2 : pick(8));
        } else if (what == 6) {
            makeTemplate();
        } else if (what < 10) {
            look(pick(9) - pick(2), node());
        } else if (what < 13) {
            match();
        } else {
            transformAll();
        }
    }

    /** Mostly a number of a node that may be in use, at times none. */
    private int node() {
        return pick(30) == 0 ? pick(40) - 8 : pick(model.count() + 1);
    }

    /** Mostly a place for a child of the node. */
    private int rankIn(int node) {
        int children = 0;
        while (model.child(node, children) >= 0) {
            children++;
        }
        return pick(children + 1) + (pick(12) == 0 ? pick(3) - 1 : 0);
    }

    private int value() {
        int[] great = {Integer.MIN_VALUE, Integer.MAX_VALUE, 65536, -65537};
        return pick(12) == 0 ? great[pick(4)] : pick(9) - 3;
    }

    private void grow() {
        int parent = node();
        int k = rankIn(parent);
        int name = pick(30) == 0 ? pick(9) - 1 : pick(3);
        int made = model.insert(parent, k, name);
        Due.same("insert(" + parent + ", " + k + ", " + name + ")", desk.insert(parent, k, name), made);
        int changed = pick(4) == 0 ? node() : made;
        int value = value();
        int newName = pick(3);
        Due.same("change(" + changed + ", " + newName + ", " + value + ")",
            bit(desk.change(changed, newName, value)), bit(model.change(changed, newName, value)));
        int of = node();
        int rank = pick(5) - 1;
        Due.same("child(" + of + ", " + rank + ")", desk.child(of, rank), model.child(of, rank));
    }

    private void shrinkOrMove() {
        int node = pick(4) == 0 ? node() : node() + 1;
        if (pick(4) == 0) {
            Due.same("remove(" + node + ")", desk.remove(node), model.remove(node));
            return;
        }
        int parent = node();
        int k = rankIn(parent);
        boolean moved = model.move(node, parent, k);
        seen[7] += bit(moved);
        Due.same("move(" + node + ", " + parent + ", " + k + ")",
            bit(desk.move(node, parent, k)), bit(moved));
    }

    private void makeExpression(int slot) {
        wanted = pick(12) + 1;
        drafted = 0;
        draft(pick(2) * pick(3), 3);
        if (pick(15) == 0) {
            put(pick(18), value());
        }
        int type = model.expression(slot);
        seen[6] += type == -2 ? 1 : 0;
        Due.same("expression(" + slot + ")", desk.expression(slot), type);
    }

    private void put(int kind, int value) {
        drafted++;
        Due.same("token(" + kind + ", " + value + ")", desk.token(kind, value),
            model.token(kind, value));
    }

    /** Drafts an expression of that type, mostly; the deeper, the smaller. */
    private void draft(int type, int depth) {
        int kind = pick(40) == 0 ? pick(18) : kindFor(type, depth > 0 && drafted < wanted + 8);
        if (kind == Due.STEP) {
            int[] wide = {1, 3, 7, 8, 9};
            int axis = pick(2) == 0 ? wide[pick(5)] : pick(11);
            int tests = depth > 1 ? pick(2) * pick(3) : 0;
            int name = pick(3) > 0 ? Due.ANY : pick(3);
            put(kind, pick(60) == 0 ? pick(500) - 50 : Due.step(axis, name, tests));
            draft(0, depth - 1);
            for (int i = 0; i < tests; i++) {
                draft(pick(3), depth - 1);
            }
            return;
        }
        put(kind, kind == Due.NUM ? value() : 0);
        if (kind == Due.UNION || kind >= Due.COUNT && kind <= Due.VALUE) {
            draft(0, depth - 1);
        }
        if (kind == Due.UNION) {
            draft(0, depth - 1);
        }
        if (kind >= Due.ADD && kind <= Due.SAME) {
            draft(pick(2), depth - 1);
            draft(pick(2), depth - 1);
        }
        if (kind >= Due.AND) {
            draft(pick(3), depth - 1);
        }
        if (kind == Due.AND || kind == Due.OR) {
            draft(pick(3), depth - 1);
        }
    }

    private int kindFor(int type, boolean large) {
        if (type == 0) {
            int[] kinds = {Due.STEP, Due.STEP, Due.STEP, Due.STEP, Due.UNION, Due.HERE, Due.ROOT};
            return large ? kinds[pick(7)] : pick(4) == 0 ? Due.ROOT : Due.HERE;
        }
        if (type == 1 || !large) {
            return large ? Due.NUM + pick(9) : Due.NUM + pick(3);
        }
        return Due.LESS + pick(5);
    }

    private void makeTemplate() {
        int t = pick(6);
        if (pick(5) == 0) {
            Due.same("drop(" + t + ")", bit(desk.drop(t)), bit(model.drop(t)));
            return;
        }
        boolean odd = pick(20) == 0;
        int match = odd ? pick(12) - 2 : pick(8);
        int priority = odd ? pick(24) - 12 : pick(3) - 1;
        int out = odd ? pick(12) - 2 : pick(9) - 1;
        int on = odd ? pick(12) - 2 : pick(9) - 1;
        Due.same("template(" + t + ", " + match + ", " + priority + ", " + out + ", " + on + ")",
            bit(desk.template(t, match, priority, out, on)),
            bit(model.template(t, match, priority, out, on)));
    }

    private void look(int slot, int node) {
        String at = "(" + slot + ", " + node + ")";
        int size = model.size(slot, node);
        int number = model.number(slot, node);
        boolean holds = model.holds(slot, node);
        seen[0] += size > 1 ? 1 : 0;
        seen[1] += number < 0 || number > 1 ? 1 : 0;
        seen[2] += bit(holds);
        Due.same("size" + at, desk.size(slot, node), size);
        Due.same("number" + at, desk.number(slot, node), number);
        Due.same("holds" + at, bit(desk.holds(slot, node)), bit(holds));
        for (int k = -1; k <= size; k++) {
            Due.same("at" + at + " " + k, desk.at(slot, node, k), model.at(slot, node, k));
        }
    }

    private void match() {
        int t = pick(30) == 0 ? pick(10) - 2 : pick(6);
        int node = node();
        boolean matches = model.matches(t, node);
        seen[3] += bit(matches);
        Due.same("matches(" + t + ", " + node + ")", bit(desk.matches(t, node)), bit(matches));
    }

    private void transformAll() {
        int node = pick(3) == 0 ? node() : 0;
        int length = model.transform(node);
        seen[4] += length > 2 ? 1 : 0;
        seen[5] += length == -3 ? 1 : 0;
        Due.same("transform(" + node + ")", desk.transform(node), length);
        for (int k = -1; k <= length; k++) {
            Due.same("output(" + k + ")", desk.output(k), model.output(k));
        }
        Due.same("output(0)", desk.output(0), model.output(0));
    }

    private static int bit(boolean answer) {
        return answer ? 1 : 0;
    }
}
