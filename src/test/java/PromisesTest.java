/** Each promise with ordinary inputs; BoundariesTest has the edges and the wrong inputs. */
public final class PromisesTest {
    private static final int ZERO = Watched.ZERO;
    private static final int NOT_ZERO = Watched.NOT_ZERO;
    private static final int ALWAYS = Watched.ALWAYS;
    private static final int NEVER = Watched.NEVER;
    private static final int THREE = Watched.THREE;
    private static final int SKIP = Watched.SKIP;
    private static final int FAIL = Watched.FAIL;
    private static final int PLUS_ONE = Watched.PLUS_ONE;
    private static final int ANY = Watched.ANY;
    private static final int NOTHING = Watched.NOTHING;
    private static final int FOREVER = Watched.FOREVER;

    private static final Due due = new Due();

    public static void main(String[] args) {
        constants();
        newObject();
        condition();
        programThen();
        programIfAndChoose();
        for (int level = 0; level < 2; level++) {
            whileThatEnds(level);
            whileThatMayGoOn(level);
            whileThatFails(level);
            whileWithinWhile(level);
            whileLongWays(level);
        }
        drop();
        countFirstIs();
        endsEndAfter();
        refines();
        same();
        level();
        due.finish();
    }

    private static void constants() {
        due.begin("the public face");
        due.due("BAD", OutcomeDesk.BAD, Watched.BAD);
        due.due("FULL", OutcomeDesk.FULL, Watched.FULL);
        due.due("NONE", OutcomeDesk.NONE, Watched.NONE);
    }

    private static void newObject() {
        due.begin("Promise 1");
        Watched d = new Watched(due);
        d.condition(0, 1, 2, 0);
        d.program(4, 0, 0, 0, 0);
        d.count(5, 0, 0, 48);
    }

    private static void condition() {
        due.begin("Promises 2 and 4");
        Watched d = new Watched(due);
        d.condition(0, 0, 1, 0);
        d.condition(1, 1, 2, 1);
        d.condition(2, 0, 0, 2);
        d.condition(3, 0, 1, 3);
        d.condition(4, 2, 1, 4);
        d.condition(2, 4, 0, 5);
        for (int s = 0; s < 64; s++) {
            int[] value = Watched.values(s);
            boolean one = value[0] == 1;
            boolean atMost = value[1] <= value[2];
            d.holds(1, s, atMost);
            d.holds(2, s, !one);
            d.holds(3, s, one && atMost);
            d.holds(4, s, !one || atMost);
            d.holds(5, s, one && !atMost);
        }
    }

    private static void programThen() {
        due.begin("Promise 3, kind 6");
        Watched d = Watched.withPrograms(due);
        d.program(6, PLUS_ONE, PLUS_ONE, 0, 6);
        d.endsIn(6, 5, 7);
        d.endsIn(6, 6, 4);
        d.program(4, ZERO, 0, 0, 7);
        d.program(6, PLUS_ONE, 7, 0, 8);
        d.counts(8, ZERO, 64, 64, 16, 0, 0, 48);
        d.program(7, THREE, FAIL, SKIP, 9);
        d.program(6, ANY, 9, 0, 10);
        d.endsIn(10, 5, 4, 5, 6);
        d.counts(10, ZERO, 0, 0, 64, 64, 0, 0);
        d.program(7, THREE, FOREVER, SKIP, 11);
        d.program(6, PLUS_ONE, 11, 0, 12);
        d.counts(12, NOT_ZERO, 32, 48, 32, 0, 16, 0);
        d.first(4, 12, 0, 2);
        d.program(6, 9, 11, 0, 13);
        d.counts(13, ALWAYS, 48, 48, 48, 16, 0, 0);
    }

    private static void programIfAndChoose() {
        due.begin("Promise 3, kinds 7 and 8");
        Watched d = Watched.withPrograms(due);
        d.program(7, ZERO, PLUS_ONE, SKIP, 6);
        d.endsIn(6, 8, 9);
        d.endsIn(6, 9, 9);
        d.program(7, ZERO, FAIL, FOREVER, 7);
        d.counts(7, ALWAYS, 0, 48, 0, 16, 48, 0);
        d.program(7, ZERO, FOREVER, FAIL, 8);
        d.counts(8, ALWAYS, 0, 16, 0, 48, 16, 0);
        d.program(8, 7, 6, 0, 9);
        d.counts(9, NOT_ZERO, 0, 48, 64, 16, 48, 0);
        d.program(8, PLUS_ONE, 6, 0, 10);
        d.endsIn(10, 8, 9);
        d.endsIn(10, 9, 9, 10);
    }

    private static void whileThatEnds(int level) {
        due.begin("Promise 3, WHILE that ends, level " + level);
        Watched d = Watched.withPrograms(due);
        d.level(level, true);
        d.program(9, NOT_ZERO, PLUS_ONE, 0, 6);
        d.counts(6, ZERO, 64, 64, 64, 0, 0, 0);
        d.endsIn(6, 57, 56);
        d.program(9, NEVER, FOREVER, 0, 7);
        d.same(7, SKIP, true);
        d.program(9, ALWAYS, NOTHING, 0, 8);
        d.same(8, NOTHING, true);
    }

    private static void whileThatMayGoOn(int level) {
        due.begin("Promise 3, WHILE that may go on for ever, level " + level);
        Watched d = Watched.withPrograms(due);
        d.level(level, true);
        d.program(9, NOT_ZERO, ANY, 0, 6);
        d.counts(6, ZERO, 16, 64, 64, 0, 48, 0);
        d.endsIn(6, 9, 8);
        d.program(9, ALWAYS, PLUS_ONE, 0, 7);
        d.same(7, FOREVER, true);
        d.program(2, 0, 0, 2, 8);
        d.program(9, NOT_ZERO, 8, 0, 9);
        d.counts(9, ZERO, 32, 64, 32, 0, 32, 0);
        d.first(4, 9, 0, 1);
        d.program(9, ZERO, FOREVER, 0, 10);
        d.counts(10, NOT_ZERO, 48, 64, 48, 0, 16, 0);
        d.program(7, THREE, FOREVER, PLUS_ONE, 11);
        d.program(9, NOT_ZERO, 11, 0, 12);
        d.counts(12, ZERO, 16, 64, 16, 0, 48, 0);
    }

    private static void whileThatFails(int level) {
        due.begin("Promise 3, WHILE that may fail, level " + level);
        Watched d = Watched.withPrograms(due);
        d.level(level, true);
        d.program(7, THREE, FAIL, PLUS_ONE, 6);
        d.program(9, NOT_ZERO, 6, 0, 7);
        d.counts(7, ZERO, 16, 16, 16, 48, 0, 0);
        d.program(9, ZERO, FAIL, 0, 8);
        d.counts(8, NOT_ZERO, 48, 48, 48, 16, 0, 0);
        d.program(8, ANY, FAIL, 0, 9);
        d.program(9, ZERO, 9, 0, 10);
        d.counts(10, NOT_ZERO, 48, 48, 64, 16, 16, 0);
        d.endsIn(10, 4, 5, 6, 7);
        d.program(9, THREE, 9, 0, 11);
        d.counts(11, ZERO, 16, 16, 32, 16, 16, 0);
    }

    private static void whileWithinWhile(int level) {
        due.begin("Promise 3, WHILE within WHILE, level " + level);
        Watched d = Watched.withPrograms(due);
        d.level(level, true);
        d.condition(0, 1, 3, 5);
        d.condition(2, 5, 0, 6);
        d.program(9, NOT_ZERO, PLUS_ONE, 0, 6);
        d.program(2, 1, 1, 1, 7);
        d.program(6, 6, 7, 0, 8);
        d.program(9, 6, 8, 0, 9);
        d.counts(9, 5, 64, 64, 64, 0, 0, 0);
        d.endsIn(9, 1, 12);
        d.endsIn(9, 13, 13);
        // Without a step of variable 1 the outer loop goes on, though the inner one ends.
        d.program(9, 6, 6, 0, 10);
        d.counts(10, 5, 16, 64, 16, 0, 48, 0);
        // The inner loop may go on where the outer one begins it.
        d.program(9, NOT_ZERO, ANY, 0, 11);
        d.program(6, 11, 7, 0, 12);
        d.program(9, 6, 12, 0, 13);
        d.counts(13, 5, 28, 64, 64, 0, 36, 0);
    }

    /** The body goes from each state to the next, and from 63 to 0, so that a bound of rounds too small would show. */
    private static void whileLongWays(int level) {
        due.begin("Promise 3, WHILE with long ways, level " + level);
        Watched d = new Watched(due);
        d.level(level, true);
        d.onlyWhereAllAre(0, 0);
        for (int x = 0; x < 3; x++) {
            d.program(2, x, x, 1, x);
        }
        d.program(0, 0, 0, 0, 3);
        d.program(7, 3, 2, 3, 4);
        d.program(7, 0, 1, 3, 5);
        d.program(6, 0, 5, 0, 6);
        d.program(6, 6, 4, 0, 7);
        for (int s = 0; s < 64; s++) {
            d.end(7, s, 0, (s + 1) % 64);
        }
        for (int value = 0; value < 4; value++) {
            longWaysTo(d, value);
        }
    }

    /** The loop stops where variable 0 has the value and variable 2 is at most variable 1. */
    private static void longWaysTo(Watched d, int value) {
        int made = 5 + 4 * value;
        d.condition(0, 0, value, made);
        d.condition(1, 2, 1, made + 1);
        d.condition(3, made, made + 1, made + 2);
        d.condition(2, made + 2, 0, made + 3);
        d.program(9, made + 3, 7, 0, 8 + value);
        for (int s = 0; s < 64; s++) {
            int last = s;
            while (Watched.values(last)[0] != value || Watched.values(last)[2] > Watched.values(last)[1]) {
                last = (last + 1) % 64;
            }
            d.end(8 + value, s, 0, last);
        }
    }

    private static void drop() {
        due.begin("Promise 5");
        Watched d = Watched.withPrograms(due);
        d.drop(6);
        d.condition(0, 1, 2, 0);
        d.program(3, 0, 0, 0, 0);
        d.program(2, 1, 3, 2, 1);
        d.counts(1, 0, 64, 64, 64, 0, 0, 0);
        d.program(9, 0, 1, 0, 2);
        d.counts(2, 0, 0, 16, 0, 0, 16, 0);
        d.drop(3);
    }

    private static void countFirstIs() {
        due.begin("Promises 6 to 8");
        Watched d = Watched.withPrograms(due);
        d.program(5, ZERO, 0, 0, 6);
        d.counts(6, ZERO, 16, 16, 16, 48, 0, 0);
        d.first(3, 6, ZERO, 1);
        d.first(0, 6, ZERO, 0);
        d.program(8, PLUS_ONE, SKIP, 0, 7);
        d.counts(7, NOT_ZERO, 32, 32, 64, 0, 0, 0);
        d.first(0, 7, NOT_ZERO, 1);
        for (int s = 0; s < 64; s++) {
            d.is(0, 6, ALWAYS, s, s % 4 == 0);
            d.is(3, 6, 0, s, s % 4 != 0);
            d.is(1, 7, NOT_ZERO, s, s % 4 == 1 || s % 4 == 2);
            d.is(2, 7, ZERO, s, s % 4 == 3 || s % 4 == 0);
        }
    }

    private static void endsEndAfter() {
        due.begin("Promises 9 to 11");
        Watched d = Watched.withPrograms(due);
        d.program(3, 1, 0, 0, 6);
        d.endsIn(6, 22, 18, 22, 26, 30);
        d.program(6, PLUS_ONE, 6, 0, 7);
        d.endsIn(7, 22, 19, 23, 27, 31);
        d.after(SKIP, ZERO, 16);
        d.after(PLUS_ONE, NOT_ZERO, 48);
        d.after(ANY, ZERO, 64);
        d.after(7, ZERO, 16);
        d.program(8, PLUS_ONE, FAIL, 0, 8);
        d.after(8, ZERO, 16);
    }

    private static void refines() {
        due.begin("Promise 12");
        Watched d = Watched.withPrograms(due);
        // Row p, column q: SKIP, FAIL, PLUS_ONE, ANY, NOTHING, FOREVER.
        String[] want = {"100010", "111111", "001010", "101110", "000010", "111111"};
        for (int p = 0; p < 6; p++) {
            for (int q = 0; q < 6; q++) {
                d.refines(p, q, want[p].charAt(q) == '1');
            }
        }
        d.program(5, ZERO, 0, 0, 6);
        d.program(7, ZERO, SKIP, FOREVER, 7);
        d.program(7, ZERO, SKIP, PLUS_ONE, 8);
        d.refines(6, 8, true);
        d.refines(7, 8, true);
        d.refines(8, 6, false);
        d.refines(8, 7, false);
        d.refines(7, 6, true);
        d.refines(6, 7, true);
        d.refines(8, ANY, false);
    }

    private static void same() {
        due.begin("Promise 13");
        Watched d = Watched.withPrograms(due);
        d.program(2, 0, 0, 2, 6);
        d.program(6, PLUS_ONE, PLUS_ONE, 0, 7);
        d.same(6, 7, true);
        d.program(8, SKIP, FAIL, 0, 8);
        d.same(SKIP, 8, false);
        d.program(8, SKIP, FOREVER, 0, 9);
        d.same(9, SKIP, false);
        d.same(8, 9, false);
        d.program(8, ANY, FAIL, 0, 10);
        d.same(8, 10, false);
    }

    private static void level() {
        due.begin("Promise 14");
        Watched d = Watched.withPrograms(due);
        int made = 6;
        for (int c = ZERO; c <= ALWAYS; c++) {
            for (int body = SKIP; body <= ANY; body++) {
                d.level(1, true);
                d.program(9, c, body, 0, made);
                d.level(0, true);
                d.program(9, c, body, 0, made + 1);
                d.same(made, made + 1, true);
                made += 2;
            }
        }
    }
}
