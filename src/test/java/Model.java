import java.util.ArrayList;
import java.util.Arrays;
import java.util.Collections;
import java.util.Comparator;
import java.util.List;

/**
 * The document's words once more, as slowly and as plainly as they can be said: rings are found by
 * trying all rows of different keys, the shorter ones first.
 */
final class Model {
    private static final int NONE = -1;
    private static final int FAR = 1000;

    private record Edge(int number, int from, int to, int place, int configurations) {}

    private final List<Integer> names = new ArrayList<>();
    private final List<Edge> edges = new ArrayList<>();
    private final List<Edge> there = new ArrayList<>();

    private int configuration = NONE;
    private List<List<Integer>> rings = new ArrayList<>();
    private List<List<Edge>> ringEdges = new ArrayList<>();
    private List<Integer> onlys = new ArrayList<>();
    private int[][] far = new int[0][0];
    private int[] parts = new int[0];
    private List<Integer> met = new ArrayList<>();

    int key(int name) {
        if (names.size() == 40 || names.contains(name)) {
            return NONE;
        }
        names.add(name);
        return names.size() - 1;
    }

    private boolean isKey(int key) {
        return key >= 0 && key < names.size();
    }

    int edge(int from, int to, int place, int configurations) {
        if (!isKey(from) || !isKey(to) || edges.size() == 160) {
            return NONE;
        }
        Edge edge = new Edge(edges.size(), from, to, place, configurations);
        edges.add(edge);
        there.add(edge);
        return edge.number();
    }

    int remove(int from, int to) {
        int before = there.size();
        there.removeIf(e -> e.from() == from && e.to() == to);
        return before - there.size();
    }

    boolean cut(int edge) {
        return there.removeIf(e -> e.number() == edge);
    }

    private boolean asks(int from, int to, int c) {
        return there.stream().anyMatch(
                e -> e.from() == from && e.to() == to && (e.configurations() >> c & 1) == 1);
    }

    int run(int c) {
        if (c < 0 || c > 7) {
            return NONE;
        }
        configuration = c;
        List<Integer> order = new ArrayList<>();
        for (int key = 0; key < names.size(); key++) {
            order.add(key);
        }
        order.sort(Comparator.comparing(names::get));
        measure();
        tell(order);
        return rings.size();
    }

    private void measure() {
        int n = names.size();
        far = new int[n][n];
        for (int a = 0; a < n; a++) {
            for (int b = 0; b < n; b++) {
                far[a][b] = asks(a, b, configuration) ? 1 : FAR;
            }
        }
        for (int m = 0; m < n; m++) {
            for (int a = 0; a < n; a++) {
                for (int b = 0; b < n; b++) {
                    far[a][b] = Math.min(far[a][b], far[a][m] + far[m][b]);
                }
            }
        }
    }

    private void tell(List<Integer> order) {
        rings = new ArrayList<>();
        ringEdges = new ArrayList<>();
        onlys = new ArrayList<>();
        parts = new int[names.size()];
        Arrays.fill(parts, NONE);
        int part = 0;
        for (int first : order) {
            if (parts[first] != NONE) {
                continue;
            }
            List<Integer> members = new ArrayList<>();
            for (int key : order) {
                if (key == first || far[key][first] < FAR && far[first][key] < FAR) {
                    parts[key] = part;
                    members.add(key);
                }
            }
            part++;
            tellRing(members);
        }
    }

    private void tellRing(List<Integer> members) {
        for (int length = 1; length <= members.size(); length++) {
            for (int first = 0; first < members.size(); first++) {
                List<Integer> row = new ArrayList<>(List.of(members.get(first)));
                if (close(row, length, members.subList(first + 1, members.size()))) {
                    rings.add(row);
                    tellEdges(row);
                    return;
                }
            }
        }
    }

    /** Makes the row longer by keys behind its first one until it is a ring of that length. */
    private boolean close(List<Integer> row, int length, List<Integer> behind) {
        int last = row.get(row.size() - 1);
        if (row.size() == length) {
            return far[last][row.get(0)] == 1;
        }
        for (int next : behind) {
            if (far[last][next] == 1 && !row.contains(next)) {
                row.add(next);
                if (close(row, length, behind)) {
                    return true;
                }
                row.remove(row.size() - 1);
            }
        }
        return false;
    }

    private void tellEdges(List<Integer> row) {
        List<Edge> told = new ArrayList<>();
        boolean[] has = new boolean[8];
        Arrays.fill(has, true);
        for (int k = 0; k < row.size(); k++) {
            int from = row.get(k);
            int to = row.get((k + 1) % row.size());
            told.add(there.stream()
                    .filter(e -> e.from() == from && e.to() == to)
                    .filter(e -> (e.configurations() >> configuration & 1) == 1)
                    .min(Comparator.comparing(Edge::place).thenComparing(Edge::number))
                    .orElseThrow());
            for (int c = 0; c < 8; c++) {
                has[c] &= asks(from, to, c);
            }
        }
        boolean other = false;
        for (int c = 0; c < 8; c++) {
            other |= c != configuration && has[c];
        }
        ringEdges.add(told);
        onlys.add(other ? NONE : configuration);
    }

    int size(int i) {
        return i >= 0 && i < rings.size() ? rings.get(i).size() : 0;
    }

    int ring(int i, int k, int what) {
        if (k < 0 || k >= size(i)) {
            return NONE;
        }
        Edge edge = ringEdges.get(i).get(k);
        return what == 0 ? rings.get(i).get(k)
                : what == 1 ? edge.place() : what == 2 ? edge.number() : NONE;
    }

    int only(int i) {
        return size(i) > 0 ? onlys.get(i) : NONE;
    }

    int newest(int i) {
        return size(i) > 0 ? Collections.max(ringEdges.get(i),
                Comparator.comparing(Edge::number)).number() : NONE;
    }

    private boolean wasThere(int key) {
        return key >= 0 && key < parts.length;
    }

    int strong(int key) {
        return wasThere(key) ? parts[key] : NONE;
    }

    int state(int key) {
        if (!wasThere(key)) {
            return NONE;
        }
        if (isRinged(key)) {
            return 2;
        }
        for (int other = 0; other < parts.length; other++) {
            if (far[key][other] < FAR && isRinged(other)) {
                return 1;
            }
        }
        return 0;
    }

    private boolean isRinged(int key) {
        return rings.stream().anyMatch(row -> parts[row.get(0)] == parts[key]);
    }

    int least(int key) {
        return !wasThere(key) ? NONE : far[key][key] < FAR ? far[key][key] : 0;
    }

    int ask(int key) {
        if (!isKey(key) || configuration == NONE) {
            return NONE;
        }
        met = new ArrayList<>();
        meets(key, new ArrayList<>(), new ArrayList<>());
        return met.size();
    }

    private boolean meets(int key, List<Integer> open, List<Integer> asked) {
        open.add(key);
        asked.add(key);
        for (Edge e : there) {
            if (e.from() != key || (e.configurations() >> configuration & 1) == 0) {
                continue;
            }
            if (open.contains(e.to())) {
                met = new ArrayList<>(open.subList(open.indexOf(e.to()), open.size()));
                return true;
            }
            if (!asked.contains(e.to()) && meets(e.to(), open, asked)) {
                return true;
            }
        }
        open.remove(open.size() - 1);
        return false;
    }

    int met(int k) {
        return k >= 0 && k < met.size() ? met.get(k) : NONE;
    }
}
