/**
 * A tree of named nodes, expressions that walk through it, and templates that make numbers of it.
 *
 * A set of nodes is an int: bit n stands for node n. What a set expression gives depends on the
 * node alone, for POSITION and LAST reach only into numbers and truths of the same test. So every
 * set token is worked out once for all nodes, the last token first, and no recursion is needed.
 */
public final class TransletDesk {
    public static final int REFUSED = -1, WRONG = -2, STALLS = -3;
    public static final int SET = 0, NUMBER = 1, TRUTH = 2;

    private static final int NONE = -1;

    private static final int NODES = 24;
    private static final int NAMES = 6;
    private static final int ANY_NAME = 6;
    /** The root is made when no number is in use, and goes only together with all nodes. */
    private static final int ROOT_NODE = 0;

    private static final int TOKENS = 40;
    private static final int SLOTS = 8;
    private static final int TEMPLATES = 6;
    private static final int GREATEST_PRIORITY = 9;
    private static final int GREATEST_TESTS = 2;

    private static final int MOST_BEGUN = 100;
    private static final int MOST_WITHIN = 12;
    /** Each node begun takes one turn to begin and one to end, so this is never reached. */
    private static final int TURNS = 1000;

    private static final int AXES = 11;
    private static final int ALL_TOKENS = SLOTS * TOKENS;
    private static final int ALL_SETS = ALL_TOKENS * NODES;
    private static final int ALL_LISTS = AXES * NODES;
    private static final int DEPTHS = MOST_WITHIN + 1;

    private static final int ITSELF = 0, CHILDREN = 1, BELOW = 3;
    private static final int SIBLINGS_BEHIND = 5, BEHIND = 7, IT_AND_BELOW = 9, IT_AND_ABOVE = 10;

    private static final int HERE = 0, ROOT = 1, STEP = 2, UNION = 3;
    private static final int NUM = 4, POSITION = 5, LAST = 6, COUNT = 7, SUM = 8, VALUE = 9;
    private static final int ADD = 10, SUB = 11, MUL = 12;
    private static final int LESS = 13, SAME = 14, AND = 15, OR = 16, NOT = 17;

    private final boolean[] inUse = new boolean[NODES];
    private final int[] parentOf = new int[NODES];
    private final int[] rankOf = new int[NODES];
    private final int[] nameOf = new int[NODES];
    private final int[] valueOf = new int[NODES];

    /** Made anew of the fields above by layOut: the document order and the nodes along each axis. */
    private final int[] order = new int[NODES];
    private final int[] along = new int[ALL_LISTS];
    private int nodeCount;

    private final int[] draftKind = new int[TOKENS];
    private final int[] draftValue = new int[TOKENS];
    private final int[] draftEnd = new int[TOKENS];
    private int draftLength;

    /** The tokens of slot s begin at s * TOKENS; the end is the token behind all operands. */
    private final int[] tokenKind = new int[ALL_TOKENS];
    private final int[] tokenValue = new int[ALL_TOKENS];
    private final int[] tokenEnd = new int[ALL_TOKENS];
    private final int[] slotLength = new int[SLOTS];

    /** What each set token gives at each node, and what each token gave as a number at last. */
    private final int[] setAt = new int[ALL_SETS];
    private final int[] amount = new int[ALL_TOKENS];
    private final int[] reached = new int[NODES];
    private final int[] agenda = new int[TOKENS];

    private final boolean[] isTemplate = new boolean[TEMPLATES];
    private final int[] matchSlot = new int[TEMPLATES];
    private final int[] priorityOf = new int[TEMPLATES];
    private final int[] outSlot = new int[TEMPLATES];
    private final int[] onSlot = new int[TEMPLATES];

    private final int[] waiting = new int[DEPTHS];
    private final int[] result = new int[MOST_BEGUN];
    private int resultLength;

    public TransletDesk() {
    }

    // ---- the tree ----

    public int insert(int parent, int k, int name) {
        int node = leastFreeNode();
        if (!isName(name) || node == NONE) {
            return REFUSED;
        }
        if (nodeCount == 0) {
            attach(node, NONE, 0);
        } else {
            if (!isNode(parent) || k < 0 || k > childCount(parent)) {
                return REFUSED;
            }
            attach(node, parent, k);
        }
        inUse[node] = true;
        nameOf[node] = name;
        valueOf[node] = 0;
        nodeCount++;
        layOut();
        return node;
    }

    public int remove(int node) {
        if (!isNode(node)) {
            return REFUSED;
        }
        int going = along[IT_AND_BELOW * NODES + node];
        int gone = countOf(going);
        detach(node);
        for (int i = 0; i < NODES; i++) {
            if ((going >> i & 1) != 0) {
                inUse[i] = false;
            }
        }
        nodeCount -= gone;
        layOut();
        return gone;
    }

    public boolean move(int node, int parent, int k) {
        if (!isNode(node) || !isNode(parent)) {
            return false;
        }
        if ((along[IT_AND_BELOW * NODES + node] >> parent & 1) != 0) {
            return false;
        }
        int others = childCount(parent);
        if (parentOf[node] == parent) {
            others--;
        }
        if (k < 0 || k > others) {
            return false;
        }
        detach(node);
        attach(node, parent, k);
        layOut();
        return true;
    }

    public boolean change(int node, int name, int value) {
        if (!isNode(node) || !isName(name)) {
            return false;
        }
        nameOf[node] = name;
        valueOf[node] = value;
        return true;
    }

    public int child(int node, int k) {
        if (!isNode(node)) {
            return REFUSED;
        }
        int found = childOfRank(node, k);
        return found == NONE ? REFUSED : found;
    }

    private boolean isName(int name) {
        return name >= 0 && name < NAMES;
    }

    private boolean isNode(int node) {
        return node >= 0 && node < NODES && inUse[node];
    }

    private int leastFreeNode() {
        for (int i = 0; i < NODES; i++) {
            if (!inUse[i]) {
                return i;
            }
        }
        return NONE;
    }

    private int childCount(int node) {
        return countOf(along[CHILDREN * NODES + node]);
    }

    private int childOfRank(int node, int rank) {
        for (int i = 0; i < NODES; i++) {
            if (inUse[i] && parentOf[i] == node && rankOf[i] == rank) {
                return i;
            }
        }
        return NONE;
    }

    private void attach(int node, int parent, int rank) {
        for (int i = 0; i < NODES; i++) {
            if (inUse[i] && i != node && parentOf[i] == parent && rankOf[i] >= rank) {
                rankOf[i]++;
            }
        }
        parentOf[node] = parent;
        rankOf[node] = rank;
    }

    private void detach(int node) {
        for (int i = 0; i < NODES; i++) {
            if (inUse[i] && parentOf[i] == parentOf[node] && rankOf[i] > rankOf[node]) {
                rankOf[i]--;
            }
        }
    }

    private void layOut() {
        for (int i = 0; i < ALL_LISTS; i++) {
            along[i] = 0;
        }
        int node = ROOT_NODE;
        for (int i = 0; i < nodeCount && node != NONE; i++) {
            order[i] = node;
            linkToEarlier(node, i);
            node = nextInOrder(node);
        }
    }

    private int nextInOrder(int node) {
        int next = childOfRank(node, 0);
        int from = node;
        for (int i = 0; i < NODES && next == NONE && parentOf[from] != NONE; i++) {
            next = childOfRank(parentOf[from], rankOf[from] + 1);
            from = parentOf[from];
        }
        return next;
    }

    private void linkToEarlier(int node, int place) {
        int parent = parentOf[node];
        int above = parent == NONE ? 0 : along[IT_AND_ABOVE * NODES + parent];
        along[ITSELF * NODES + node] = 1 << node;
        link(IT_AND_BELOW, node, node);
        for (int i = 0; i < place; i++) {
            int earlier = order[i];
            if ((above >> earlier & 1) != 0) {
                link(BELOW, earlier, node);
                link(IT_AND_BELOW, earlier, node);
            } else {
                link(BEHIND, earlier, node);
            }
            if (parent == earlier) {
                link(CHILDREN, earlier, node);
            } else if (parent == parentOf[earlier]) {
                link(SIBLINGS_BEHIND, earlier, node);
            }
        }
    }

    /** The axis behind each one that goes onward is the same one turned round. */
    private void link(int axis, int earlier, int later) {
        along[axis * NODES + earlier] |= 1 << later;
        along[(axis + 1) * NODES + later] |= 1 << earlier;
    }

    // ---- sets of nodes ----

    private int countOf(int set) {
        int count = 0;
        for (int i = 0; i < NODES; i++) {
            count += set >> i & 1;
        }
        return count;
    }

    private int sumOf(int set) {
        int sum = 0;
        for (int i = 0; i < NODES; i++) {
            if ((set >> i & 1) != 0) {
                sum += valueOf[i];
            }
        }
        return sum;
    }

    private int memberOf(int set, int k) {
        int passed = 0;
        for (int i = 0; i < nodeCount; i++) {
            if ((set >> order[i] & 1) != 0) {
                if (passed == k) {
                    return order[i];
                }
                passed++;
            }
        }
        return NONE;
    }

    private int firstValueOf(int set) {
        for (int i = 0; i < nodeCount; i++) {
            if ((set >> order[i] & 1) != 0) {
                return valueOf[order[i]];
            }
        }
        return 0;
    }

    private int nodesNamed(int name) {
        int set = 0;
        for (int i = 0; i < nodeCount; i++) {
            int node = order[i];
            if (name == ANY_NAME || nameOf[node] == name) {
                set |= 1 << node;
            }
        }
        return set;
    }

    // ---- the draft and the slots ----

    public int token(int kind, int value) {
        if (kind < HERE || kind > NOT || draftLength >= TOKENS) {
            return REFUSED;
        }
        if (kind == STEP && !isStepValue(value)) {
            return REFUSED;
        }
        draftKind[draftLength] = kind;
        draftValue[draftLength] = value;
        draftLength++;
        return draftLength;
    }

    public int expression(int slot) {
        if (!isSlot(slot)) {
            return REFUSED;
        }
        boolean whole = draftIsWhole();
        if (whole) {
            keepDraft(slot);
        }
        draftLength = 0;
        return whole ? typeOf(tokenKind[slot * TOKENS]) : WRONG;
    }

    private boolean isStepValue(int value) {
        return value >= 0 && axisOf(value) < AXES && stepNameOf(value) <= ANY_NAME
            && testsOf(value) <= GREATEST_TESTS;
    }

    private int axisOf(int stepValue) {
        return stepValue & 15;
    }

    private int stepNameOf(int stepValue) {
        return stepValue >> 4 & 7;
    }

    private int testsOf(int stepValue) {
        return stepValue >> 7;
    }

    private boolean isSlot(int slot) {
        return slot >= 0 && slot < SLOTS;
    }

    private int typeOf(int kind) {
        if (kind <= UNION) {
            return SET;
        }
        return kind <= MUL ? NUMBER : TRUTH;
    }

    /** Each token of an expression begins one itself, so a single token that does not spoils all. */
    private boolean draftIsWhole() {
        for (int i = draftLength - 1; i >= 0; i--) {
            int end = draftEndFrom(i);
            if (end == NONE) {
                return false;
            }
            draftEnd[i] = end;
        }
        return draftLength > 0 && draftEnd[0] == draftLength;
    }

    private int draftEndFrom(int start) {
        int kind = draftKind[start];
        int operands = operandsOf(kind, draftValue[start]);
        int next = start + 1;
        for (int i = 0; i < operands; i++) {
            if (next >= draftLength) {
                return NONE;
            }
            int type = typeOf(draftKind[next]);
            if (type > loosestOperand(kind, i)) {
                return NONE;
            }
            next = draftEnd[next];
        }
        return next;
    }

    private int operandsOf(int kind, int value) {
        switch (kind) {
            case STEP:
                return 1 + testsOf(value);
            case COUNT:
            case SUM:
            case VALUE:
            case NOT:
                return 1;
            case UNION:
            case ADD:
            case SUB:
            case MUL:
            case LESS:
            case SAME:
            case AND:
            case OR:
                return 2;
            default:
                return 0;
        }
    }

    /** An S takes a set alone, an N a number too, an E all three: the types in their own order. */
    private int loosestOperand(int kind, int operand) {
        switch (kind) {
            case STEP:
                return operand == 0 ? SET : TRUTH;
            case ADD:
            case SUB:
            case MUL:
            case LESS:
            case SAME:
                return NUMBER;
            case AND:
            case OR:
            case NOT:
                return TRUTH;
            default:
                return SET;
        }
    }

    private void keepDraft(int slot) {
        int start = slot * TOKENS;
        for (int i = 0; i < draftLength; i++) {
            tokenKind[start + i] = draftKind[i];
            tokenValue[start + i] = draftValue[i];
            tokenEnd[start + i] = start + draftEnd[i];
        }
        slotLength[slot] = draftLength;
    }

    // ---- what expressions give ----

    public int size(int slot, int node) {
        if (!givesSet(slot) || !isNode(node)) {
            return REFUSED;
        }
        prepare(slot);
        return countOf(setAt[slot * TOKENS * NODES + node]);
    }

    public int at(int slot, int node, int k) {
        if (!givesSet(slot) || !isNode(node)) {
            return REFUSED;
        }
        prepare(slot);
        int member = memberOf(setAt[slot * TOKENS * NODES + node], k);
        return member == NONE ? REFUSED : member;
    }

    public int number(int slot, int node) {
        if (!isFilled(slot) || !isNode(node)) {
            return 0;
        }
        prepare(slot);
        workOut(slot * TOKENS, node, 1, 1);
        return amount[slot * TOKENS];
    }

    public boolean holds(int slot, int node) {
        if (!isFilled(slot) || !isNode(node)) {
            return false;
        }
        prepare(slot);
        workOut(slot * TOKENS, node, 1, 1);
        return isTrue(slot * TOKENS, node);
    }

    private boolean isFilled(int slot) {
        return slot >= 0 && slot < SLOTS && slotLength[slot] > 0;
    }

    private boolean givesSet(int slot) {
        return isFilled(slot) && tokenKind[slot * TOKENS] <= UNION;
    }

    /** Works out every set of a slot at every node: operands stand behind, so from the last on. */
    private void prepare(int slot) {
        int start = slot * TOKENS;
        for (int i = start + slotLength[slot] - 1; i >= start; i--) {
            if (tokenKind[i] == STEP) {
                fillStep(i);
            } else if (tokenKind[i] <= UNION) {
                fillSimpleSet(i);
            }
        }
    }

    private void fillSimpleSet(int token) {
        for (int i = 0; i < nodeCount; i++) {
            int node = order[i];
            int set = 1 << node;
            if (tokenKind[token] == ROOT) {
                set = 1 << ROOT_NODE;
            } else if (tokenKind[token] == UNION) {
                int first = token + 1;
                int second = tokenEnd[first];
                set = setAt[first * NODES + node] | setAt[second * NODES + node];
            }
            setAt[token * NODES + node] = set;
        }
    }

    /** What stays of the list from a node is the same wherever that node was come from. */
    private void fillStep(int token) {
        int value = tokenValue[token];
        int axis = axisOf(value);
        int tests = testsOf(value);
        int name = stepNameOf(value);
        int named = nodesNamed(name);
        for (int i = 0; i < nodeCount; i++) {
            int node = order[i];
            int list = along[axis * NODES + node] & named;
            int test = tokenEnd[token + 1];
            for (int j = 0; j < tests; j++) {
                list = sift(list, axis, test);
                test = tokenEnd[test];
            }
            reached[node] = list;
        }
        gatherReached(token);
    }

    private void gatherReached(int token) {
        for (int i = 0; i < nodeCount; i++) {
            int node = order[i];
            int from = setAt[(token + 1) * NODES + node];
            int set = 0;
            for (int j = 0; j < NODES; j++) {
                if ((from >> j & 1) != 0) {
                    set |= reached[j];
                }
            }
            setAt[token * NODES + node] = set;
        }
    }

    private int sift(int list, int axis, int test) {
        boolean turnedRound = axis != ITSELF && axis % 2 == 0;
        int last = countOf(list);
        int position = 0;
        int stay = 0;
        for (int i = 0; i < nodeCount; i++) {
            int node = order[turnedRound ? nodeCount - 1 - i : i];
            if ((list >> node & 1) != 0) {
                position++;
                workOut(test, node, position, last);
                boolean stays = typeOf(tokenKind[test]) == NUMBER
                    ? amount[test] == position : isTrue(test, node);
                if (stays) {
                    stay |= 1 << node;
                }
            }
        }
        return stay;
    }

    /** Leaves in amount what the token and its operands give as numbers; its sets are prepared. */
    private void workOut(int token, int node, int position, int last) {
        int due = planWork(token);
        for (int i = due - 1; i >= 0; i--) {
            int here = agenda[i];
            int first = here + 1;
            switch (tokenKind[here]) {
                case NUM:
                    amount[here] = tokenValue[here];
                    break;
                case POSITION:
                    amount[here] = position;
                    break;
                case LAST:
                    amount[here] = last;
                    break;
                case COUNT:
                    amount[here] = countOf(setAt[first * NODES + node]);
                    break;
                case SUM:
                    amount[here] = sumOf(setAt[first * NODES + node]);
                    break;
                case VALUE:
                    amount[here] = amount[first];
                    break;
                case ADD:
                case SUB:
                case MUL:
                    amount[here] = calculated(here);
                    break;
                case LESS:
                case SAME:
                    amount[here] = compared(here, node) ? 1 : 0;
                    break;
                case AND:
                    amount[here] = isTrue(first, node) && isTrue(tokenEnd[first], node) ? 1 : 0;
                    break;
                case OR:
                    amount[here] = isTrue(first, node) || isTrue(tokenEnd[first], node) ? 1 : 0;
                    break;
                case NOT:
                    amount[here] = isTrue(first, node) ? 0 : 1;
                    break;
                default:
                    amount[here] = firstValueOf(setAt[here * NODES + node]);
                    break;
            }
        }
    }

    /** Tokens inside a set are left out: they belong to other places than this one. */
    private int planWork(int token) {
        int due = 0;
        int free = token;
        int end = tokenEnd[token];
        for (int i = token; i < end; i++) {
            if (i >= free && due < TOKENS) {
                agenda[due] = i;
                due++;
                free = tokenKind[i] <= UNION ? tokenEnd[i] : i + 1;
            }
        }
        return due;
    }

    private int calculated(int token) {
        int left = amount[token + 1];
        int right = amount[tokenEnd[token + 1]];
        if (tokenKind[token] == ADD) {
            return left + right;
        }
        return tokenKind[token] == SUB ? left - right : left * right;
    }

    /** A number is looked at like a set of one node that has this value. */
    private boolean compared(int token, int node) {
        boolean less = tokenKind[token] == LESS;
        int first = token + 1;
        int second = tokenEnd[first];
        boolean firstIsSet = tokenKind[first] <= UNION;
        boolean secondIsSet = tokenKind[second] <= UNION;
        int lefts = firstIsSet ? setAt[first * NODES + node] : 1;
        int rights = secondIsSet ? setAt[second * NODES + node] : 1;
        for (int i = 0; i < NODES; i++) {
            if ((lefts >> i & 1) == 0) {
                continue;
            }
            int left = firstIsSet ? valueOf[i] : amount[first];
            for (int j = 0; j < NODES; j++) {
                int right = secondIsSet ? valueOf[j] : amount[second];
                boolean fulfils = less ? left < right : left == right;
                if (fulfils && (rights >> j & 1) != 0) {
                    return true;
                }
            }
        }
        return false;
    }

    private boolean isTrue(int token, int node) {
        if (tokenKind[token] <= UNION) {
            return setAt[token * NODES + node] != 0;
        }
        return amount[token] != 0;
    }

    // ---- templates ----

    public boolean template(int t, int match, int priority, int out, int on) {
        if (t < 0 || t >= TEMPLATES || !isSlot(match)) {
            return false;
        }
        if (priority < -GREATEST_PRIORITY || priority > GREATEST_PRIORITY) {
            return false;
        }
        if (out != NONE && !isSlot(out) || on != NONE && !isSlot(on)) {
            return false;
        }
        isTemplate[t] = true;
        matchSlot[t] = match;
        priorityOf[t] = priority;
        outSlot[t] = out;
        onSlot[t] = on;
        return true;
    }

    public boolean drop(int t) {
        if (t < 0 || t >= TEMPLATES || !isTemplate[t]) {
            return false;
        }
        isTemplate[t] = false;
        return true;
    }

    public boolean matches(int t, int node) {
        if (t < 0 || t >= TEMPLATES || !isTemplate[t] || !isNode(node)) {
            return false;
        }
        prepare(matchSlot[t]);
        return isMatched(t, node);
    }

    public int transform(int node) {
        if (!isNode(node)) {
            return REFUSED;
        }
        for (int i = 0; i < SLOTS; i++) {
            prepare(i);
        }
        resultLength = 0;
        if (!handleAll(node)) {
            resultLength = 0;
            return STALLS;
        }
        return resultLength;
    }

    public int output(int k) {
        return k >= 0 && k < resultLength ? result[k] : 0;
    }

    private boolean isMatched(int t, int node) {
        if (!givesSet(matchSlot[t])) {
            return false;
        }
        int start = matchSlot[t] * TOKENS * NODES;
        int places = along[IT_AND_ABOVE * NODES + node];
        for (int i = 0; i < NODES; i++) {
            if ((places >> i & 1) != 0 && (setAt[start + i] >> node & 1) != 0) {
                return true;
            }
        }
        return false;
    }

    private int templateFor(int node) {
        int best = NONE;
        for (int i = 0; i < TEMPLATES; i++) {
            boolean candidate = isTemplate[i] && (best == NONE || priorityOf[i] >= priorityOf[best]);
            if (candidate && isMatched(i, node)) {
                best = i;
            }
        }
        return best;
    }

    /** False if it stalls. Each depth has its own set of nodes that wait within those begun. */
    private boolean handleAll(int node) {
        int depth = 0;
        int begun = 0;
        waiting[0] = 1 << node;
        for (int turn = 0; turn < TURNS && depth >= 0; turn++) {
            int next = memberOf(waiting[depth], 0);
            if (next == NONE) {
                depth--;
                continue;
            }
            begun++;
            if (begun > MOST_BEGUN || depth >= MOST_WITHIN) {
                return false;
            }
            waiting[depth] &= ~(1 << next);
            depth++;
            int taken = templateFor(next);
            waiting[depth] = taken == NONE ? along[CHILDREN * NODES + next] : follow(taken, next);
        }
        return true;
    }

    /** Puts out what the template gives at the node and answers the nodes to be handled within. */
    private int follow(int t, int node) {
        int out = outSlot[t];
        if (isFilled(out) && resultLength < MOST_BEGUN) {
            workOut(out * TOKENS, node, 1, 1);
            result[resultLength] = amount[out * TOKENS];
            resultLength++;
        }
        int on = onSlot[t];
        return givesSet(on) ? setAt[on * TOKENS * NODES + node] : 0;
    }
}
