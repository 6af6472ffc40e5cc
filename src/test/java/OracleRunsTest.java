/**
 * Runs of calls drawn from a fixed sequence of numbers, answered by OutcomeDesk and by Oracle.
 * Every run stays within 512 calls on one object, and changes the level now and then.
 */
public final class OracleRunsTest {
    private static final int RUNS = 400;
    private static final int CALLS = 512;

    private static long seed = 20261115L;
    private static final Due due = new Due();

    private static OutcomeDesk desk;
    private static Oracle oracle;
    private static int run;

    public static void main(String[] args) {
        for (run = 0; run < RUNS; run++) {
            desk = new OutcomeDesk();
            oracle = new Oracle();
            // A third of the runs makes programs early and then only asks, a third mixes, a third makes few.
            int making = new int[] {60, 25, 8}[run % 3];
            for (int call = 0; call < CALLS; call++) {
                if (below(100) < (call < 80 ? making + 35 : making / 4)) {
                    make();
                } else {
                    ask();
                }
            }
        }
        due.finish();
    }

    private static int below(int bound) {
        seed = seed * 6364136223846793005L + 1442695040888963407L;
        return (int) ((seed >>> 33) % bound);
    }

    /** Mostly a number below the bound; sometimes one at or beyond an edge. */
    private static int near(int bound) {
        int pick = below(40);
        return switch (pick) {
            case 0 -> -1;
            case 1 -> bound;
            case 2 -> below(2) == 0 ? Integer.MIN_VALUE : Integer.MAX_VALUE;
            default -> bound == 0 ? 0 : below(bound);
        };
    }

    /** The newest programs are the heaviest and the most worth asking for. */
    private static int someProgram() {
        int there = oracle.programs();
        return below(3) == 0 && there > 4 ? there - 1 - below(4) : near(there);
    }

    private static int someCondition() {
        return near(oracle.conditions());
    }

    private static void make() {
        if (below(3) == 0) {
            makeCondition();
        } else {
            makeProgram();
        }
    }

    private static void makeCondition() {
        int kind = near(5);
        boolean composed = kind >= 2;
        int x = composed ? someCondition() : near(3);
        int y = composed ? someCondition() : near(kind == 0 ? 4 : 3);
        due.due(run + ": condition(" + kind + ", " + x + ", " + y + ")",
            desk.condition(kind, x, y), oracle.condition(kind, x, y));
    }

    private static void makeProgram() {
        int kind = oracle.programs() > 6 && below(2) == 0 ? 6 + below(4) : near(10);
        int x = switch (kind) {
            case 2, 3 -> near(3);
            case 6, 8 -> someProgram();
            default -> someCondition();
        };
        int y = kind == 2 ? near(4) : someProgram();
        int z = kind == 2 ? near(4) : someProgram();
        due.due(run + ": program(" + kind + ", " + x + ", " + y + ", " + z + ")",
            desk.program(kind, x, y, z), oracle.program(kind, x, y, z));
    }

    private static void ask() {
        int kind = near(6);
        int p = someProgram();
        int q = someProgram();
        int c = someCondition();
        int s = near(64);
        int k = near(5);
        String with = " with kind " + kind + ", p " + p + ", q " + q + ", c " + c + ", s " + s + ", k " + k;
        switch (below(11)) {
            case 0 -> due.due(run + ": holds" + with, desk.holds(c, s), oracle.holds(c, s));
            case 1 -> due.due(run + ": count" + with, desk.count(kind, p, c), oracle.count(kind, p, c));
            case 2 -> due.due(run + ": first" + with, desk.first(kind, p, c), oracle.first(kind, p, c));
            case 3 -> due.due(run + ": is" + with, desk.is(kind, p, c, s), oracle.is(kind, p, c, s));
            case 4 -> due.due(run + ": ends" + with, desk.ends(p, s), oracle.ends(p, s));
            case 5 -> due.due(run + ": end" + with, desk.end(p, s, k), oracle.end(p, s, k));
            case 6 -> due.due(run + ": after" + with, desk.after(p, c), oracle.after(p, c));
            case 7 -> due.due(run + ": refines" + with, desk.refines(p, q), oracle.refines(p, q));
            case 8 -> due.due(run + ": same" + with, desk.same(p, q), oracle.same(p, q));
            case 9 -> {
                int level = near(2);
                due.due(run + ": level(" + level + ")", desk.level(level), level == 0 || level == 1);
            }
            default -> {
                if (below(30) == 0) {
                    due.due(run + ": drop()", desk.drop(), oracle.drop());
                }
            }
        }
    }
}
