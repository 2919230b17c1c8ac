import java.util.ArrayList;
import java.util.Collections;
import java.util.HashSet;
import java.util.List;
import java.util.Set;
import java.util.TreeMap;

/** The document once more, with objects, lists and recursion: what ModelTest compares with. */
final class DeskModel {
    /** Thrown when handling stalls. */
    private static final class Stall extends RuntimeException {
        private static final long serialVersionUID = 1L;
    }

    private static final class Node {
        final int number;
        int name;
        int value;
        Node parent;
        final List<Node> children = new ArrayList<>();

        Node(int number, int name) {
            this.number = number;
            this.name = name;
        }
    }

    private static final class Part {
        final int kind;
        final int value;
        final List<Part> parts = new ArrayList<>();

        Part(int kind, int value) {
            this.kind = kind;
            this.value = value;
        }

        int type() {
            return kind < 4 ? 0 : kind < 13 ? 1 : 2;
        }
    }

    private final TreeMap<Integer, Node> nodes = new TreeMap<>();
    private Node root;
    private final List<int[]> draft = new ArrayList<>();
    private final Part[] slots = new Part[8];
    private final int[][] templates = new int[6][];
    private List<Integer> out = new ArrayList<>();
    private int begun;

    // ---- the tree ----

    int insert(int parent, int k, int name) {
        if (name < 0 || name > 5 || nodes.size() == 24) {
            return -1;
        }
        int number = 0;
        while (nodes.containsKey(number)) {
            number++;
        }
        Node made = new Node(number, name);
        if (root == null) {
            root = made;
        } else {
            Node above = nodes.get(parent);
            if (above == null || k < 0 || k > above.children.size()) {
                return -1;
            }
            made.parent = above;
            above.children.add(k, made);
        }
        nodes.put(number, made);
        return number;
    }

    int count() {
        return nodes.size();
    }

    int remove(int node) {
        Node gone = nodes.get(node);
        if (gone == null) {
            return -1;
        }
        List<Node> all = withBelow(gone);
        for (Node each : all) {
            nodes.remove(each.number);
        }
        if (gone.parent == null) {
            root = null;
        } else {
            gone.parent.children.remove(gone);
        }
        return all.size();
    }

    boolean move(int node, int parent, int k) {
        Node moved = nodes.get(node);
        Node above = nodes.get(parent);
        if (moved == null || above == null || withBelow(moved).contains(above)) {
            return false;
        }
        List<Node> without = new ArrayList<>(above.children);
        without.remove(moved);
        if (k < 0 || k > without.size()) {
            return false;
        }
        moved.parent.children.remove(moved);
        above.children.add(k, moved);
        moved.parent = above;
        return true;
    }

    boolean change(int node, int name, int value) {
        Node changed = nodes.get(node);
        if (changed == null || name < 0 || name > 5) {
            return false;
        }
        changed.name = name;
        changed.value = value;
        return true;
    }

    int child(int node, int k) {
        Node of = nodes.get(node);
        return of == null || k < 0 || k >= of.children.size() ? -1 : of.children.get(k).number;
    }

    private static List<Node> withBelow(Node node) {
        List<Node> list = new ArrayList<>();
        addWithBelow(node, list);
        return list;
    }

    private static void addWithBelow(Node node, List<Node> list) {
        list.add(node);
        for (Node each : node.children) {
            addWithBelow(each, list);
        }
    }

    private static List<Node> above(Node node) {
        List<Node> list = new ArrayList<>();
        for (Node each = node.parent; each != null; each = each.parent) {
            list.add(each);
        }
        return list;
    }

    private List<Node> sorted(Set<Node> set) {
        List<Node> list = root == null ? new ArrayList<>() : withBelow(root);
        list.retainAll(set);
        return list;
    }

    private List<Node> axis(int axis, Node node) {
        List<Node> all = axis == 7 || axis == 8 ? withBelow(root) : List.of();
        int place = all.indexOf(node);
        List<Node> siblings = node.parent == null ? List.of(node) : node.parent.children;
        int rank = siblings.indexOf(node);
        List<Node> list = new ArrayList<>();
        switch (axis) {
            case 0: list.add(node); break;
            case 1: list.addAll(node.children); break;
            case 2: if (node.parent != null) { list.add(node.parent); } break;
            case 3: list.addAll(withBelow(node)); list.remove(node); break;
            case 4: list.addAll(above(node)); break;
            case 5: list.addAll(siblings.subList(rank + 1, siblings.size())); break;
            case 6: list.addAll(siblings.subList(0, rank)); Collections.reverse(list); break;
            case 7: list.addAll(all.subList(place, all.size())); list.removeAll(withBelow(node)); break;
            case 8:
                list.addAll(all.subList(0, place));
                list.removeAll(above(node));
                Collections.reverse(list);
                break;
            case 9: list.addAll(withBelow(node)); break;
            default: list.add(node); list.addAll(above(node)); break;
        }
        return list;
    }

    // ---- expressions ----

    int token(int kind, int value) {
        if (kind < 0 || kind > 17 || draft.size() == 40) {
            return -1;
        }
        if (kind == 2 && (value < 0 || value % 16 > 10 || value / 16 % 8 > 6 || value / 128 > 2)) {
            return -1;
        }
        draft.add(new int[] {kind, value});
        return draft.size();
    }

    int expression(int slot) {
        if (slot < 0 || slot > 7) {
            return -1;
        }
        List<int[]> rest = new ArrayList<>(draft);
        draft.clear();
        Part part = parse(rest);
        if (part == null || !rest.isEmpty()) {
            return -2;
        }
        slots[slot] = part;
        return part.type();
    }

    private Part parse(List<int[]> rest) {
        if (rest.isEmpty()) {
            return null;
        }
        int[] head = rest.remove(0);
        Part part = new Part(head[0], head[1]);
        String form = form(part);
        for (int i = 0; i < form.length(); i++) {
            Part each = parse(rest);
            if (each == null || form.charAt(i) == 'S' && each.type() != 0
                || form.charAt(i) == 'N' && each.type() == 2) {
                return null;
            }
            part.parts.add(each);
        }
        return part;
    }

    private static String form(Part part) {
        String[] forms = {"", "", "S", "SS", "", "", "", "S", "S", "S", "NN", "NN", "NN", "NN", "NN",
            "EE", "EE", "E"};
        return part.kind == 2 ? "S" + "E".repeat(part.value / 128) : forms[part.kind];
    }

    private Set<Node> set(Part part, Node node) {
        Set<Node> set = new HashSet<>();
        switch (part.kind) {
            case 0: set.add(node); break;
            case 1: set.add(root); break;
            case 3:
                set.addAll(set(part.parts.get(0), node));
                set.addAll(set(part.parts.get(1), node));
                break;
            default:
                for (Node from : set(part.parts.get(0), node)) {
                    set.addAll(walked(part, from));
                }
                break;
        }
        return set;
    }

    private List<Node> walked(Part step, Node from) {
        List<Node> list = axis(step.value % 16, from);
        int name = step.value / 16 % 8;
        list.removeIf(each -> name != 6 && each.name != name);
        for (Part test : step.parts.subList(1, step.parts.size())) {
            List<Node> stay = new ArrayList<>();
            for (int i = 0; i < list.size(); i++) {
                boolean holds = test.type() == 1
                    ? number(test, list.get(i), i + 1, list.size()) == i + 1
                    : truth(test, list.get(i), i + 1, list.size());
                if (holds) {
                    stay.add(list.get(i));
                }
            }
            list = stay;
        }
        return list;
    }

    private int number(Part part, Node node, int position, int last) {
        if (part.type() == 0) {
            List<Node> list = sorted(set(part, node));
            return list.isEmpty() ? 0 : list.get(0).value;
        }
        if (part.type() == 2) {
            return truth(part, node, position, last) ? 1 : 0;
        }
        switch (part.kind) {
            case 4: return part.value;
            case 5: return position;
            case 6: return last;
            case 7: return set(part.parts.get(0), node).size();
            case 8: return set(part.parts.get(0), node).stream().mapToInt(each -> each.value).sum();
            case 9: return number(part.parts.get(0), node, position, last);
            default: break;
        }
        int left = number(part.parts.get(0), node, position, last);
        int right = number(part.parts.get(1), node, position, last);
        return part.kind == 10 ? left + right : part.kind == 11 ? left - right : left * right;
    }

    private boolean truth(Part part, Node node, int position, int last) {
        if (part.type() == 0) {
            return !set(part, node).isEmpty();
        }
        if (part.type() == 1) {
            return number(part, node, position, last) != 0;
        }
        Part first = part.parts.get(0);
        if (part.kind == 17) {
            return !truth(first, node, position, last);
        }
        Part second = part.parts.get(1);
        if (part.kind == 15) {
            return truth(first, node, position, last) && truth(second, node, position, last);
        }
        if (part.kind == 16) {
            return truth(first, node, position, last) || truth(second, node, position, last);
        }
        for (int left : values(first, node, position, last)) {
            for (int right : values(second, node, position, last)) {
                if (part.kind == 13 ? left < right : left == right) {
                    return true;
                }
            }
        }
        return false;
    }

    private List<Integer> values(Part part, Node node, int position, int last) {
        List<Integer> list = new ArrayList<>();
        if (part.type() == 0) {
            for (Node each : set(part, node)) {
                list.add(each.value);
            }
        } else {
            list.add(number(part, node, position, last));
        }
        return list;
    }

    private boolean filled(int slot, int node) {
        return slot >= 0 && slot < 8 && slots[slot] != null && nodes.containsKey(node);
    }

    int size(int slot, int node) {
        boolean fine = filled(slot, node) && slots[slot].type() == 0;
        return fine ? set(slots[slot], nodes.get(node)).size() : -1;
    }

    int at(int slot, int node, int k) {
        if (!filled(slot, node) || slots[slot].type() != 0) {
            return -1;
        }
        List<Node> list = sorted(set(slots[slot], nodes.get(node)));
        return k < 0 || k >= list.size() ? -1 : list.get(k).number;
    }

    int number(int slot, int node) {
        return filled(slot, node) ? number(slots[slot], nodes.get(node), 1, 1) : 0;
    }

    boolean holds(int slot, int node) {
        return filled(slot, node) && truth(slots[slot], nodes.get(node), 1, 1);
    }

    // ---- templates ----

    boolean template(int t, int match, int priority, int out, int on) {
        if (t < 0 || t > 5 || match < 0 || match > 7 || priority < -9 || priority > 9
            || out < -1 || out > 7 || on < -1 || on > 7) {
            return false;
        }
        templates[t] = new int[] {match, priority, out, on};
        return true;
    }

    boolean drop(int t) {
        if (t < 0 || t > 5 || templates[t] == null) {
            return false;
        }
        templates[t] = null;
        return true;
    }

    boolean matches(int t, int node) {
        if (t < 0 || t > 5 || templates[t] == null || !nodes.containsKey(node)) {
            return false;
        }
        Part match = slots[templates[t][0]];
        if (match == null || match.type() != 0) {
            return false;
        }
        Node matched = nodes.get(node);
        for (Node each = matched; each != null; each = each.parent) {
            if (set(match, each).contains(matched)) {
                return true;
            }
        }
        return false;
    }

    int transform(int node) {
        if (!nodes.containsKey(node)) {
            return -1;
        }
        out = new ArrayList<>();
        begun = 0;
        try {
            handle(nodes.get(node), 0);
        } catch (Stall stall) {
            out = new ArrayList<>();
            return -3;
        }
        return out.size();
    }

    private void handle(Node node, int within) {
        begun++;
        if (begun > 100 || within == 12) {
            throw new Stall();
        }
        int best = -1;
        for (int priority = -9; priority <= 9; priority++) {
            for (int t = 0; t < 6; t++) {
                if (matches(t, node.number) && templates[t][1] == priority) {
                    best = t;
                }
            }
        }
        List<Node> next = node.children;
        if (best >= 0) {
            int outSlot = templates[best][2];
            int onSlot = templates[best][3];
            if (filled(outSlot, node.number)) {
                out.add(number(slots[outSlot], node, 1, 1));
            }
            boolean goesOn = filled(onSlot, node.number) && slots[onSlot].type() == 0;
            next = goesOn ? sorted(set(slots[onSlot], node)) : List.of();
        }
        for (Node each : next) {
            handle(each, within + 1);
        }
    }

    int output(int k) {
        return k >= 0 && k < out.size() ? out.get(k) : 0;
    }
}
