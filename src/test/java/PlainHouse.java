import java.util.ArrayDeque;
import java.util.ArrayList;
import java.util.Deque;
import java.util.HashMap;
import java.util.HashSet;
import java.util.LinkedHashMap;
import java.util.List;
import java.util.Map;
import java.util.NoSuchElementException;
import java.util.Set;
import java.util.TreeMap;
import java.util.TreeSet;

/**
 * The document once more, as plainly as its words go and with nothing of the program's ways: NUMBERS for slots, lists
 * of pairs for rows, whole ways for counted steps, recursion for queues.
 */
final class PlainHouse {
    /** x HAS y by l. */
    record Pair(int l, int x, int y) { }

    record Link(int a, int b, int form, int rule) { }

    /** The OBJECTS, and the pairs twice: in an order that holds the rows of x, and in one that holds those of y. */
    private static final class State {
        final TreeMap<Integer, Integer> kinds = new TreeMap<>();
        final List<Pair> has = new ArrayList<>();
        final List<Pair> had = new ArrayList<>();

        State twin() {
            State twin = new State();
            twin.kinds.putAll(kinds);
            twin.has.addAll(has);
            twin.had.addAll(had);
            return twin;
        }
    }

    private final List<Link> links = new ArrayList<>();
    private final Deque<State> levels = new ArrayDeque<>();
    private State now = new State();
    private int given;
    private List<Integer> path = new ArrayList<>();

    int link(int a, int b, int form, int rule) {
        need(in(a, 10) && in(b, 10) && in(form, 3) && in(rule, 3));
        if (links.size() == 10) {
            throw new IllegalStateException();
        }
        links.add(new Link(a, b, form, rule));
        return links.size() - 1;
    }

    int make(int kind) {
        need(in(kind, 10));
        if (now.kinds.size() == 100) {
            throw new IllegalStateException();
        }
        now.kinds.put(given, kind);
        return given++;
    }

    int set(int l, int x, int y, int i) {
        need(in(l, links.size()) && i >= -1);
        needThere(x);
        needThere(y);
        needKind(x, links.get(l).a);
        needKind(y, links.get(l).b);
        Pair pair = new Pair(l, x, y);
        State next = now.twin();
        boolean hadIt = next.has.remove(pair);
        if (!hadIt) {
            int form = links.get(l).form;
            next.has.removeIf(p -> p.l == l && (form == 0 && p.x == x || form <= 1 && p.y == y));
            next.had.removeIf(p -> p.l == l && (form == 0 && p.x == x || form <= 1 && p.y == y));
            next.had.add(pair);
            List<Integer> ring = ways(y).get(x);
            if (links.get(l).rule == 1 && ring != null) {
                path = ring;
                throw new UnsupportedOperationException();
            }
        }
        List<Integer> row = row(next, l, x);
        if (i > row.size()) {
            throw new IndexOutOfBoundsException();
        }
        row.add(i < 0 ? row.size() : i, y);
        if (row.size() > 12 || behind(next, l, y).size() > 12) {
            throw new IllegalStateException();
        }
        next.has.removeIf(p -> p.l == l && p.x == x);
        row.forEach(each -> next.has.add(new Pair(l, x, each)));
        now = next;
        return row.size();
    }

    int cut(int l, int x, int y) {
        need(in(l, links.size()));
        needThere(x);
        needThere(y);
        needKind(x, links.get(l).a);
        needKind(y, links.get(l).b);
        now.had.remove(new Pair(l, x, y));
        return now.has.remove(new Pair(l, x, y)) ? 1 : 0;
    }

    int drop(int x) {
        needThere(x);
        Set<Integer> gone = new HashSet<>(Set.of(x));
        boolean more = true;
        while (more) {
            more = false;
            for (int y : now.kinds.keySet()) {
                Set<Integer> owners = owners(y);
                more |= !owners.isEmpty() && gone.containsAll(owners) && gone.add(y);
            }
        }
        Map<Integer, List<Integer>> ways = ways(x);
        List<Integer> least = null;
        for (int one : new TreeSet<>(gone)) {
            TreeSet<Integer> bars = new TreeSet<>();
            for (Pair p : now.has) {
                if (p.x == one && links.get(p.l).rule == 2 && !gone.contains(p.y)) {
                    bars.add(p.y);
                }
            }
            if (!bars.isEmpty() && (least == null || ways.get(one).size() + 1 < least.size())) {
                least = new ArrayList<>(ways.get(one));
                least.add(bars.first());
            }
        }
        if (least != null) {
            path = least;
            throw new IllegalStateException();
        }
        gone.forEach(now.kinds::remove);
        now.has.removeIf(p -> gone.contains(p.x) || gone.contains(p.y));
        now.had.removeIf(p -> gone.contains(p.x) || gone.contains(p.y));
        return gone.size();
    }

    int copy(int x) {
        needThere(x);
        TreeMap<Integer, Integer> copies = new TreeMap<>();
        for (int old : new TreeSet<>(ways(x).keySet())) {
            copies.put(old, given + copies.size());
        }
        State next = now.twin();
        copies.forEach((old, fresh) -> next.kinds.put(fresh, now.kinds.get(old)));
        now.has.forEach(p -> addCopy(p, copies, next.has));
        now.had.forEach(p -> addCopy(p, copies, next.had));
        boolean room = next.kinds.size() <= 100;
        for (Pair p : next.has) {
            room &= row(next, p.l, p.x).size() <= 12 && behind(next, p.l, p.y).size() <= 12;
        }
        if (!room) {
            throw new IllegalStateException();
        }
        now = next;
        given += copies.size();
        return copies.get(x);
    }

    private void addCopy(Pair p, Map<Integer, Integer> copies, List<Pair> into) {
        boolean loose = links.get(p.l).form == 2 && links.get(p.l).rule != 1;
        if (copies.containsKey(p.x) && (loose || copies.containsKey(p.y))) {
            into.add(new Pair(p.l, copies.get(p.x), copies.getOrDefault(p.y, p.y)));
        }
    }

    int alike(int x, int y) {
        needThere(x);
        needThere(y);
        return alike(x, y, new HashMap<>()) ? 1 : 0;
    }

    private boolean alike(int x, int y, Map<List<Integer>, Boolean> known) {
        Boolean found = known.get(List.of(x, y));
        if (found != null) {
            return found;
        }
        boolean alike = now.kinds.get(x).equals(now.kinds.get(y));
        for (int l = 0; l < links.size() && alike; l++) {
            List<Integer> first = row(now, l, x);
            List<Integer> second = row(now, l, y);
            boolean owns = links.get(l).rule == 1;
            alike = !owns || first.size() == second.size();
            for (int i = 0; owns && alike && i < first.size(); i++) {
                alike = alike(first.get(i), second.get(i), known);
            }
        }
        known.put(List.of(x, y), alike);
        return alike;
    }

    int at(int l, int x, int i) {
        need(in(l, links.size()));
        needThere(x);
        needKind(x, links.get(l).a);
        return element(row(now, l, x), i);
    }

    int back(int l, int y, int i) {
        need(in(l, links.size()));
        needThere(y);
        needKind(y, links.get(l).b);
        return element(behind(now, l, y), i);
    }

    int ask(int x, int what) {
        need(in(what, 6));
        needThere(x);
        Set<Integer> near = new HashSet<>();
        now.has.forEach(p -> {
            if (p.x == x) {
                near.add(p.y);
            }
            if (p.y == x) {
                near.add(p.x);
            }
        });
        int[] all = {now.kinds.get(x), owners(x).size(), ways(x).size() - 1, deep(x, new HashMap<>()),
            owned(x).size(), near.size()};
        return all[what];
    }

    private int deep(int x, Map<Integer, Integer> known) {
        if (!known.containsKey(x)) {
            int deep = 0;
            for (int owner : owners(x)) {
                deep = Math.max(deep, 1 + deep(owner, known));
            }
            known.put(x, deep);
        }
        return known.get(x);
    }

    int size(int l, int x, int side) {
        need(in(l, links.size()) && in(side, 2));
        needThere(x);
        needKind(x, side == 0 ? links.get(l).a : links.get(l).b);
        return (side == 0 ? row(now, l, x) : behind(now, l, x)).size();
    }

    int way(int x, int y) {
        needThere(x);
        needThere(y);
        path = ways(x).getOrDefault(y, List.of());
        return path.size() - 1;
    }

    int path(int i) {
        return element(path, i);
    }

    int begin() {
        if (levels.size() == 12) {
            throw new IllegalStateException();
        }
        levels.push(now.twin());
        return levels.size();
    }

    int end(boolean kept) {
        if (levels.isEmpty()) {
            throw new IllegalStateException();
        }
        State before = levels.pop();
        now = kept ? now : before;
        return levels.size();
    }

    int count(int what) {
        need(in(what, 6));
        int[] all = {links.size(), now.kinds.size(), given, levels.size(), path.size(), now.has.size()};
        return all[what];
    }

    List<Integer> there() {
        return new ArrayList<>(now.kinds.keySet());
    }

    List<Integer> thereOfKind(int kind) {
        List<Integer> there = there();
        there.removeIf(x -> now.kinds.get(x) != kind);
        return there;
    }

    /** From x to all that is UNDER it, and to itself: the least of the shortest ways, as whole ways. */
    private Map<Integer, List<Integer>> ways(int x) {
        Map<Integer, List<Integer>> ways = new LinkedHashMap<>();
        ways.put(x, List.of(x));
        List<List<Integer>> last = List.of(List.of(x));
        while (!last.isEmpty()) {
            List<List<Integer>> longer = new ArrayList<>();
            for (List<Integer> way : last) {
                for (int next : owned(way.get(way.size() - 1))) {
                    List<Integer> extended = new ArrayList<>(way);
                    extended.add(next);
                    if (ways.putIfAbsent(next, extended) == null) {
                        longer.add(extended);
                    }
                }
            }
            last = longer;
        }
        return ways;
    }

    private TreeSet<Integer> owned(int x) {
        TreeSet<Integer> owned = new TreeSet<>();
        for (Pair p : now.has) {
            if (p.x == x && links.get(p.l).rule == 1) {
                owned.add(p.y);
            }
        }
        return owned;
    }

    private Set<Integer> owners(int y) {
        Set<Integer> owners = new HashSet<>();
        for (Pair p : now.had) {
            if (p.y == y && links.get(p.l).rule == 1) {
                owners.add(p.x);
            }
        }
        return owners;
    }

    private static List<Integer> row(State state, int l, int x) {
        List<Integer> row = new ArrayList<>();
        for (Pair p : state.has) {
            if (p.l == l && p.x == x) {
                row.add(p.y);
            }
        }
        return row;
    }

    private static List<Integer> behind(State state, int l, int y) {
        List<Integer> row = new ArrayList<>();
        for (Pair p : state.had) {
            if (p.l == l && p.y == y) {
                row.add(p.x);
            }
        }
        return row;
    }

    private static int element(List<Integer> row, int i) {
        if (i < 0 || i >= row.size()) {
            throw new IndexOutOfBoundsException();
        }
        return row.get(i);
    }

    private static boolean in(int value, int bound) {
        return value >= 0 && value < bound;
    }

    private static void need(boolean inRange) {
        if (!inRange) {
            throw new IllegalArgumentException();
        }
    }

    private void needThere(int x) {
        if (!now.kinds.containsKey(x)) {
            throw new NoSuchElementException();
        }
    }

    private void needKind(int x, int kind) {
        if (now.kinds.get(x) != kind) {
            throw new ClassCastException();
        }
    }
}
