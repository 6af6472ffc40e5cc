import java.util.ArrayList;
import java.util.HashMap;
import java.util.HashSet;
import java.util.List;
import java.util.Map;
import java.util.Set;

/**
 * A second reading of the document, made another way than OutcomeDesk so that both are unlikely to
 * share a fault: it takes single steps. A point of a run is a state and the list of the programs
 * still to do. A run ends where the list is empty, and goes on for ever if it can come to a round
 * trip of points (there are finitely many, and every round trip begins some WHILE's body anew).
 */
final class Oracle {
    static final int BAD = -1;
    static final int FULL = -2;
    static final int NONE = -3;

    private record Point(List<Integer> left, int state) { }

    private record Outcome(Set<Integer> ends, boolean fails, boolean forever) { }

    private final List<int[]> conditions = new ArrayList<>();
    private final List<int[]> programs = new ArrayList<>();
    private final Map<Integer, Outcome> known = new HashMap<>();

    int conditions() {
        return conditions.size();
    }

    int programs() {
        return programs.size();
    }

    int condition(int kind, int x, int y) {
        if (conditions.size() == 24) {
            return FULL;
        }
        boolean sound = switch (kind) {
            case 0 -> within(x, 3) && within(y, 4);
            case 1 -> within(x, 3) && within(y, 3);
            case 2 -> isCondition(x);
            case 3, 4 -> isCondition(x) && isCondition(y);
            default -> false;
        };
        if (!sound) {
            return BAD;
        }
        conditions.add(new int[] {kind, x, y});
        return conditions.size() - 1;
    }

    int program(int kind, int x, int y, int z) {
        if (programs.size() == 32) {
            return FULL;
        }
        boolean sound = switch (kind) {
            case 0, 1 -> true;
            case 2 -> within(x, 3) && within(y, 4) && within(z, 4);
            case 3 -> within(x, 3);
            case 4, 5 -> isCondition(x);
            case 6, 8 -> isProgram(x) && isProgram(y);
            case 7 -> isCondition(x) && isProgram(y) && isProgram(z);
            case 9 -> isCondition(x) && isProgram(y);
            default -> false;
        };
        if (!sound) {
            return BAD;
        }
        programs.add(new int[] {kind, x, y, z});
        if (weight(programs.size() - 1) > 20) {
            programs.remove(programs.size() - 1);
            return FULL;
        }
        return programs.size() - 1;
    }

    boolean holds(int c, int s) {
        if (!isCondition(c) || !within(s, 64)) {
            return false;
        }
        int[] made = conditions.get(c);
        return switch (made[0]) {
            case 0 -> values(s)[made[1]] == made[2];
            case 1 -> values(s)[made[1]] <= values(s)[made[2]];
            case 2 -> !holds(made[1], s);
            case 3 -> holds(made[1], s) && holds(made[2], s);
            default -> holds(made[1], s) || holds(made[2], s);
        };
    }

    int drop() {
        int there = programs.size();
        conditions.clear();
        programs.clear();
        known.clear();
        return there;
    }

    int count(int kind, int p, int c) {
        if (!isQuestion(kind, p, c)) {
            return BAD;
        }
        int count = 0;
        for (int s = 0; s < 64; s++) {
            count += is(kind, p, c, s) ? 1 : 0;
        }
        return count;
    }

    int first(int kind, int p, int c) {
        if (!isQuestion(kind, p, c)) {
            return BAD;
        }
        for (int s = 0; s < 64; s++) {
            if (is(kind, p, c, s)) {
                return s;
            }
        }
        return NONE;
    }

    boolean is(int kind, int p, int c, int s) {
        if (!isQuestion(kind, p, c) || !within(s, 64)) {
            return false;
        }
        Outcome o = outcome(p, s);
        return switch (kind) {
            case 0 -> !o.fails && !o.forever && o.ends.stream().allMatch(e -> holds(c, e));
            case 1 -> !o.fails && o.ends.stream().allMatch(e -> holds(c, e));
            case 2 -> o.ends.stream().anyMatch(e -> holds(c, e));
            case 3 -> o.fails;
            case 4 -> o.forever;
            default -> !o.fails && !o.forever && o.ends.isEmpty();
        };
    }

    int ends(int p, int s) {
        return isProgram(p) && within(s, 64) ? outcome(p, s).ends.size() : BAD;
    }

    int end(int p, int s, int k) {
        if (!isProgram(p) || !within(s, 64)) {
            return BAD;
        }
        List<Integer> sorted = new ArrayList<>(outcome(p, s).ends);
        sorted.sort(null);
        return within(k, sorted.size()) ? sorted.get(k) : NONE;
    }

    int after(int p, int c) {
        if (!isProgram(p) || !isCondition(c)) {
            return BAD;
        }
        Set<Integer> all = new HashSet<>();
        for (int s = 0; s < 64; s++) {
            if (holds(c, s)) {
                all.addAll(outcome(p, s).ends);
            }
        }
        return all.size();
    }

    boolean refines(int p, int q) {
        if (!isProgram(p) || !isProgram(q)) {
            return false;
        }
        for (int s = 0; s < 64; s++) {
            Outcome a = outcome(p, s);
            Outcome b = outcome(q, s);
            boolean safe = !a.fails && !a.forever;
            if (safe && (b.fails || b.forever || !a.ends.containsAll(b.ends))) {
                return false;
            }
        }
        return true;
    }

    boolean same(int p, int q) {
        if (!isProgram(p) || !isProgram(q)) {
            return false;
        }
        for (int s = 0; s < 64; s++) {
            if (!outcome(p, s).equals(outcome(q, s))) {
                return false;
            }
        }
        return true;
    }

    private static boolean within(int x, int bound) {
        return x >= 0 && x < bound;
    }

    private boolean isCondition(int c) {
        return within(c, conditions.size());
    }

    private boolean isProgram(int p) {
        return within(p, programs.size());
    }

    private boolean isQuestion(int kind, int p, int c) {
        return within(kind, 6) && isProgram(p) && (kind > 2 || isCondition(c));
    }

    private int weight(int p) {
        int[] made = programs.get(p);
        return switch (made[0]) {
            case 6, 8 -> 1 + weight(made[1]) + weight(made[2]);
            case 7 -> 1 + weight(made[2]) + weight(made[3]);
            case 9 -> 1 + weight(made[2]);
            default -> 1;
        };
    }

    private static int[] values(int s) {
        return new int[] {s % 4, s / 4 % 4, s / 16};
    }

    private static int changed(int s, int variable, int value) {
        int[] v = values(s);
        v[variable] = value % 4;
        return v[0] + 4 * v[1] + 16 * v[2];
    }

    private Outcome outcome(int p, int s) {
        return known.computeIfAbsent(p * 64 + s, key -> explore(new Point(List.of(p), s)));
    }

    private Outcome explore(Point start) {
        Map<Point, List<Point>> next = new HashMap<>();
        Set<Integer> ends = new HashSet<>();
        boolean fails = false;
        List<Point> open = new ArrayList<>(List.of(start));
        while (!open.isEmpty()) {
            Point at = open.remove(open.size() - 1);
            if (next.containsKey(at)) {
                continue;
            }
            if (at.left.isEmpty()) {
                ends.add(at.state);
                next.put(at, List.of());
                continue;
            }
            fails |= failsNow(at);
            List<Point> steps = steps(at);
            next.put(at, steps);
            open.addAll(steps);
        }
        return new Outcome(ends, fails, hasRoundTrip(next));
    }

    /** Takes away points that lead nowhere until none does; what is left then lies before a round trip. */
    private static boolean hasRoundTrip(Map<Point, List<Point>> next) {
        Map<Point, Integer> ways = new HashMap<>();
        Map<Point, List<Point>> before = new HashMap<>();
        List<Point> done = new ArrayList<>();
        next.forEach((at, steps) -> {
            ways.put(at, steps.size());
            steps.forEach(step -> before.computeIfAbsent(step, key -> new ArrayList<>()).add(at));
            if (steps.isEmpty()) {
                done.add(at);
            }
        });
        int taken = 0;
        while (!done.isEmpty()) {
            Point at = done.remove(done.size() - 1);
            taken++;
            for (Point earlier : before.getOrDefault(at, List.of())) {
                if (ways.merge(earlier, -1, Integer::sum) == 0) {
                    done.add(earlier);
                }
            }
        }
        return taken < next.size();
    }

    private boolean failsNow(Point at) {
        int[] made = programs.get(at.left.get(0));
        return made[0] == 1 || made[0] == 5 && !holds(made[1], at.state);
    }

    private List<Point> steps(Point at) {
        int now = at.left.get(0);
        int s = at.state;
        int[] made = programs.get(now);
        int x = made[1];
        int y = made[2];
        int z = made[3];
        List<Point> steps = new ArrayList<>();
        switch (made[0]) {
            case 0 -> steps.add(go(at, s));
            case 1 -> { }
            case 2 -> steps.add(go(at, changed(s, x, (y == 3 ? 0 : values(s)[y]) + z)));
            case 3 -> {
                for (int value = 0; value < 4; value++) {
                    steps.add(go(at, changed(s, x, value)));
                }
            }
            case 4, 5 -> {
                if (holds(x, s)) {
                    steps.add(go(at, s));
                }
            }
            case 6 -> steps.add(go(at, s, x, y));
            case 7 -> steps.add(go(at, s, holds(x, s) ? y : z));
            case 8 -> {
                steps.add(go(at, s, x));
                steps.add(go(at, s, y));
            }
            default -> steps.add(holds(x, s) ? go(at, s, y, now) : go(at, s));
        }
        return steps;
    }

    /** The point in the given state with the first program left replaced by the given ones. */
    private static Point go(Point at, int state, int... instead) {
        List<Integer> left = new ArrayList<>();
        for (int p : instead) {
            left.add(p);
        }
        left.addAll(at.left.subList(1, at.left.size()));
        return new Point(left, state);
    }
}
