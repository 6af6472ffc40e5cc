import java.lang.reflect.Field;
import java.util.Arrays;
import java.util.StringJoiner;

/**
 * An OutcomeDesk of which every answer is compared with the one that is due, the last argument.
 * The document says nothing about calls beyond the 512th, so a test that makes more is wrong.
 */
final class Watched {
    static final int BAD = -1;
    static final int FULL = -2;
    static final int NONE = -3;

    /** The conditions and programs of withConditions and withPrograms. */
    static final int ZERO = 0;
    static final int NOT_ZERO = 1;
    static final int ALWAYS = 2;
    static final int NEVER = 3;
    static final int THREE = 4;
    static final int SKIP = 0;
    static final int FAIL = 1;
    static final int PLUS_ONE = 2;
    static final int ANY = 3;
    static final int NOTHING = 4;
    static final int FOREVER = 5;

    private final OutcomeDesk desk = new OutcomeDesk();
    private final Due due;
    private int calls = 0;

    Watched(Due due) {
        this.due = due;
    }

    /** Has the conditions ZERO to THREE; ZERO and THREE are about variable 0. */
    static Watched withConditions(Due due) {
        Watched d = new Watched(due);
        d.condition(0, 0, 0, ZERO);
        d.condition(2, ZERO, 0, NOT_ZERO);
        d.condition(4, ZERO, NOT_ZERO, ALWAYS);
        d.condition(3, ZERO, NOT_ZERO, NEVER);
        d.condition(0, 0, 3, THREE);
        return d;
    }

    /** Has the programs SKIP to FOREVER, too; PLUS_ONE and ANY are about variable 0. */
    static Watched withPrograms(Due due) {
        Watched d = withConditions(due);
        d.program(0, 0, 0, 0, SKIP);
        d.program(1, 0, 0, 0, FAIL);
        d.program(2, 0, 0, 1, PLUS_ONE);
        d.program(3, 0, 0, 0, ANY);
        d.program(4, NEVER, 0, 0, NOTHING);
        d.program(9, ALWAYS, SKIP, 0, FOREVER);
        return d;
    }

    /** Numbers outside low..high, among them some that a narrower type, a shift or a product would take for one inside. */
    static int[] outside(int low, int high) {
        return new int[] {low - 1, high + 1, low - 64, high + 64, low + 256, low + 65536, low + (1 << 26),
            Integer.MIN_VALUE, Integer.MIN_VALUE + high, Integer.MAX_VALUE};
    }

    /** The values of the three variables in a state. */
    static int[] values(int s) {
        return new int[] {s % 4, s / 4 % 4, s / 16};
    }

    void condition(int kind, int x, int y, int want) {
        compare("condition", desk.condition(kind, x, y), want, kind, x, y);
    }

    void program(int kind, int x, int y, int z, int want) {
        compare("program", desk.program(kind, x, y, z), want, kind, x, y, z);
    }

    void holds(int c, int s, boolean want) {
        compare("holds", desk.holds(c, s), want, c, s);
    }

    void drop(int want) {
        compare("drop", desk.drop(), want);
    }

    void count(int kind, int p, int c, int want) {
        compare("count", desk.count(kind, p, c), want, kind, p, c);
    }

    void first(int kind, int p, int c, int want) {
        compare("first", desk.first(kind, p, c), want, kind, p, c);
    }

    void is(int kind, int p, int c, int s, boolean want) {
        compare("is", desk.is(kind, p, c, s), want, kind, p, c, s);
    }

    void ends(int p, int s, int want) {
        compare("ends", desk.ends(p, s), want, p, s);
    }

    void end(int p, int s, int k, int want) {
        compare("end", desk.end(p, s, k), want, p, s, k);
    }

    void after(int p, int c, int want) {
        compare("after", desk.after(p, c), want, p, c);
    }

    void refines(int p, int q, boolean want) {
        compare("refines", desk.refines(p, q), want, p, q);
    }

    void same(int p, int q, boolean want) {
        compare("same", desk.same(p, q), want, p, q);
    }

    void level(int k, boolean want) {
        compare("level", desk.level(k), want, k);
    }

    /** The level shows in no answer, so the only way to see it is to look at the field that holds it. */
    void heldLevel(int want) {
        try {
            Field held = OutcomeDesk.class.getDeclaredField("chosenLevel");
            held.setAccessible(true);
            due.due("after call " + calls + ", the level", held.getInt(desk), want);
        } catch (ReflectiveOperationException e) {
            due.due("OutcomeDesk has the field chosenLevel, of type int", false, true);
        }
    }

    int calls() {
        return calls;
    }

    /** Conditions first to first + 4, of which the last holds alone where every variable has the value. */
    void onlyWhereAllAre(int value, int first) {
        for (int x = 0; x < 3; x++) {
            condition(0, x, value, first + x);
        }
        condition(3, first, first + 1, first + 3);
        condition(3, first + 3, first + 2, first + 4);
    }

    /** The numbers of states of the kinds 0 to 5. */
    void counts(int p, int c, int... want) {
        for (int kind = 0; kind < 6; kind++) {
            count(kind, p, c, want[kind]);
        }
    }

    /** The states in which a program may end from a state, ascending, and no more. */
    void endsIn(int p, int s, int... want) {
        ends(p, s, want.length);
        for (int k = 0; k < want.length; k++) {
            end(p, s, k, want[k]);
        }
        end(p, s, want.length, NONE);
    }

    private void compare(String method, boolean got, boolean want, int... arguments) {
        compare(method, got ? 1 : 0, want ? 1 : 0, arguments);
    }

    private void compare(String method, long got, long want, int... arguments) {
        calls++;
        StringJoiner call = new StringJoiner(", ", "call " + calls + ", " + method + "(", ")");
        Arrays.stream(arguments).forEach(a -> call.add(String.valueOf(a)));
        due.due(call.toString(), got, want);
        if (calls == 513) {
            due.due("the test makes more than 512 calls: " + call, true, false);
        }
    }
}
