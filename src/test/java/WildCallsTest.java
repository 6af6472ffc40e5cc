/**
 * Rules 7 and 11 of LANGUAGE.md: no call throws, whatever its arguments are and however many calls
 * came before it, and the same calls give the same answers. What is answered beyond the 512th call
 * is free, so that answers are compared only with those of a second object that had the same calls.
 */
public final class WildCallsTest {
    private static final int OBJECTS = 40;
    private static final int CALLS = 4000;
    private static final int METHODS = 13;

    private static final Due due = new Due();
    private static long seed = 20261116L;

    public static void main(String[] args) {
        for (int object = 0; object < OBJECTS; object++) {
            OutcomeDesk one = new OutcomeDesk();
            OutcomeDesk other = new OutcomeDesk();
            for (int call = 1; call <= CALLS; call++) {
                // A drop is rare, so that most calls find the object full or nearly so.
                int method = below(400) == 0 ? METHODS - 1 : below(METHODS - 1);
                int[] a = {wild(), wild(), wild(), wild()};
                String told = "object " + object + ", call " + call + ", method " + method
                    + " with " + a[0] + ", " + a[1] + ", " + a[2] + ", " + a[3];
                compare(told, one, other, method, a);
            }
        }
        due.finish();
    }

    private static void compare(String told, OutcomeDesk one, OutcomeDesk other, int method, int[] a) {
        try {
            due.due(told, answer(one, method, a), answer(other, method, a));
        } catch (RuntimeException | Error e) {
            due.due(told + ": no call may throw, but " + e, true, false);
        }
    }

    private static int answer(OutcomeDesk desk, int method, int[] a) {
        return switch (method) {
            case 0 -> desk.condition(a[0], a[1], a[2]);
            case 1 -> desk.program(a[0], a[1], a[2], a[3]);
            case 2 -> desk.holds(a[0], a[1]) ? 1 : 0;
            case 3 -> desk.count(a[0], a[1], a[2]);
            case 4 -> desk.first(a[0], a[1], a[2]);
            case 5 -> desk.is(a[0], a[1], a[2], a[3]) ? 1 : 0;
            case 6 -> desk.ends(a[0], a[1]);
            case 7 -> desk.end(a[0], a[1], a[2]);
            case 8 -> desk.after(a[0], a[1]);
            case 9 -> desk.refines(a[0], a[1]) ? 1 : 0;
            case 10 -> desk.same(a[0], a[1]) ? 1 : 0;
            case 11 -> desk.level(a[0]) ? 1 : 0;
            default -> desk.drop();
        };
    }

    private static int below(int bound) {
        seed = seed * 6364136223846793005L + 1442695040888963407L;
        return (int) ((seed >>> 33) % bound);
    }

    /** Mostly a small number, that some argument could be; else one at an edge, one of some power of two, or any at all. */
    private static int wild() {
        return switch (below(16)) {
            case 0 -> new int[] {Integer.MIN_VALUE, Integer.MAX_VALUE, -1, 24, 32, 64}[below(6)];
            case 1 -> (1 << below(32)) + below(3) - 1;
            case 2 -> below(65536) << 16 | below(65536);
            case 3, 4, 5 -> below(64);
            case 6, 7, 8 -> below(24);
            default -> below(10);
        };
    }
}
