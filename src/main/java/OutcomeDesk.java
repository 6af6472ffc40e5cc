/**
 * Programs with choices over three small variables: how they can end, fail, or go on for ever.
 *
 * A set of states is held as a long: bit s is set if state s is in it. What a program may do is
 * worked out once, when it is made, since the programs it is made of never change before a drop.
 */
public final class OutcomeDesk {
    public static final int BAD = -1;
    public static final int FULL = -2;
    public static final int NONE = -3;

    private static final int VARIABLES = 3;
    private static final int VALUES = 4;
    private static final int STATES = 64;
    private static final int MOST_CONDITIONS = 24;
    private static final int MOST_PROGRAMS = 32;
    private static final int MOST_WEIGHT = 20;
    private static final long ALL = -1L;

    private static final int VALUE_IS = 0;
    private static final int AT_MOST = 1;
    private static final int NOT = 2;
    private static final int AND = 3;
    private static final int OR = 4;

    private static final int SKIP = 0;
    private static final int FAIL = 1;
    private static final int SET = 2;
    private static final int ANY = 3;
    private static final int ASSUME = 4;
    private static final int CHECK = 5;
    private static final int THEN = 6;
    private static final int IF = 7;
    private static final int CHOOSE = 8;
    private static final int WHILE = 9;

    // Level 0 walks from every state round by round; level 1 closes the steps of a loop once for all states.
    private static final int WALKING = 0;
    private static final int CLOSING = 1;

    private int chosenLevel;
    private int conditionTotal;
    private int programTotal;

    private final long[] conditionStates = new long[24];
    private final int[] weights = new int[32];
    private final long[] failStates = new long[32];
    private final long[] foreverStates = new long[32];
    // The states in which program p may end from state s stand at p * 64 + s.
    private final long[] endStates = new long[2048];
    // While a WHILE is worked out: the states that its body can lead to in one round or more.
    private final long[] reached = new long[64];

    public OutcomeDesk() {
        chosenLevel = CLOSING;
        conditionTotal = 0;
        programTotal = 0;
    }

    public int condition(int kind, int x, int y) {
        if (conditionTotal >= MOST_CONDITIONS) {
            return FULL;
        }
        if (!isSoundCondition(kind, x, y)) {
            return BAD;
        }
        int made = conditionTotal;
        conditionStates[made] = statesOfCondition(kind, x, y);
        conditionTotal = made + 1;
        return made;
    }

    public int program(int kind, int x, int y, int z) {
        if (programTotal >= MOST_PROGRAMS) {
            return FULL;
        }
        if (!isSoundProgram(kind, x, y, z)) {
            return BAD;
        }
        int weight = weightOf(kind, x, y, z);
        if (weight > MOST_WEIGHT) {
            return FULL;
        }
        int made = programTotal;
        weights[made] = weight;
        workOut(made, kind, x, y, z);
        programTotal = made + 1;
        return made;
    }

    public boolean holds(int c, int s) {
        return isCondition(c) && isState(s) && contains(conditionStates[c], s);
    }

    public int drop() {
        int programs = programTotal;
        conditionTotal = 0;
        programTotal = 0;
        return programs;
    }

    public int count(int kind, int p, int c) {
        if (!isQuestion(kind, p, c)) {
            return BAD;
        }
        long states = statesOfKind(kind, p, c);
        return sizeOf(states);
    }

    public int first(int kind, int p, int c) {
        if (!isQuestion(kind, p, c)) {
            return BAD;
        }
        long states = statesOfKind(kind, p, c);
        return member(states, 0);
    }

    public boolean is(int kind, int p, int c, int s) {
        if (!isQuestion(kind, p, c) || !isState(s)) {
            return false;
        }
        long states = statesOfKind(kind, p, c);
        return contains(states, s);
    }

    public int ends(int p, int s) {
        if (!isProgram(p) || !isState(s)) {
            return BAD;
        }
        return sizeOf(endStates[p * STATES + s]);
    }

    public int end(int p, int s, int k) {
        if (!isProgram(p) || !isState(s)) {
            return BAD;
        }
        return member(endStates[p * STATES + s], k);
    }

    public int after(int p, int c) {
        if (!isProgram(p) || !isCondition(c)) {
            return BAD;
        }
        long states = endsFrom(p, conditionStates[c]);
        return sizeOf(states);
    }

    public boolean refines(int p, int q) {
        if (!isProgram(p) || !isProgram(q)) {
            return false;
        }
        long safe = ~(failStates[p] | foreverStates[p]);
        if ((safe & (failStates[q] | foreverStates[q])) != 0) {
            return false;
        }
        for (int s = 0; s < STATES; s++) {
            long more = endStates[q * STATES + s] & ~endStates[p * STATES + s];
            if (contains(safe, s) && more != 0) {
                return false;
            }
        }
        return true;
    }

    public boolean same(int p, int q) {
        if (!isProgram(p) || !isProgram(q)) {
            return false;
        }
        if (failStates[p] != failStates[q] || foreverStates[p] != foreverStates[q]) {
            return false;
        }
        for (int s = 0; s < STATES; s++) {
            if (endStates[p * STATES + s] != endStates[q * STATES + s]) {
                return false;
            }
        }
        return true;
    }

    public boolean level(int k) {
        if (k != WALKING && k != CLOSING) {
            return false;
        }
        chosenLevel = k;
        return true;
    }

    private static boolean isVariable(int x) {
        return x >= 0 && x < VARIABLES;
    }

    private static boolean isValue(int x) {
        return x >= 0 && x < VALUES;
    }

    private static boolean isState(int s) {
        return s >= 0 && s < STATES;
    }

    private boolean isCondition(int c) {
        return c >= 0 && c < conditionTotal;
    }

    private boolean isProgram(int p) {
        return p >= 0 && p < programTotal;
    }

    private boolean isSoundCondition(int kind, int x, int y) {
        switch (kind) {
            case VALUE_IS:
                return isVariable(x) && isValue(y);
            case AT_MOST:
                return isVariable(x) && isVariable(y);
            case NOT:
                return isCondition(x);
            case AND:
            case OR:
                return isCondition(x) && isCondition(y);
            default:
                return false;
        }
    }

    private boolean isSoundProgram(int kind, int x, int y, int z) {
        switch (kind) {
            case SKIP:
            case FAIL:
                return true;
            case SET:
                // y is a variable or 3 for none, and so has the bounds of a value.
                return isVariable(x) && isValue(y) && isValue(z);
            case ANY:
                return isVariable(x);
            case ASSUME:
            case CHECK:
                return isCondition(x);
            case THEN:
            case CHOOSE:
                return isProgram(x) && isProgram(y);
            case IF:
                return isCondition(x) && isProgram(y) && isProgram(z);
            case WHILE:
                return isCondition(x) && isProgram(y);
            default:
                return false;
        }
    }

    /** In kinds 3 to 5 the condition plays no part, so it need not be there. */
    private boolean isQuestion(int kind, int p, int c) {
        if (kind < 0 || kind > 5 || !isProgram(p)) {
            return false;
        }
        return kind > 2 || isCondition(c);
    }

    private int weightOf(int kind, int x, int y, int z) {
        switch (kind) {
            case THEN:
            case CHOOSE:
                return 1 + weights[x] + weights[y];
            case IF:
                return 1 + weights[y] + weights[z];
            case WHILE:
                return 1 + weights[y];
            default:
                return 1;
        }
    }

    private long statesOfCondition(int kind, int x, int y) {
        switch (kind) {
            case VALUE_IS:
                return statesWithValue(x, y);
            case AT_MOST:
                return statesAtMost(x, y);
            case NOT:
                return ~conditionStates[x];
            case AND:
                return conditionStates[x] & conditionStates[y];
            default:
                return conditionStates[x] | conditionStates[y];
        }
    }

    private static long statesWithValue(int x, int value) {
        long states = 0;
        for (int s = 0; s < STATES; s++) {
            if (valueOf(x, s) == value) {
                states |= 1L << s;
            }
        }
        return states;
    }

    private static long statesAtMost(int x, int y) {
        long states = 0;
        for (int s = 0; s < STATES; s++) {
            if (valueOf(x, s) <= valueOf(y, s)) {
                states |= 1L << s;
            }
        }
        return states;
    }

    private static int valueOf(int x, int s) {
        return (s >> (2 * x)) & 3;
    }

    private static int withValue(int s, int x, int value) {
        return (s & ~(3 << (2 * x))) | (value << (2 * x));
    }

    private static boolean contains(long states, int s) {
        return ((states >>> s) & 1L) != 0;
    }

    private static int sizeOf(long states) {
        int size = 0;
        for (int s = 0; s < STATES; s++) {
            if (contains(states, s)) {
                size++;
            }
        }
        return size;
    }

    /** Member number k of a set, from 0, in ascending order, or NONE. */
    private static int member(long states, int k) {
        int before = 0;
        for (int s = 0; s < STATES; s++) {
            if (contains(states, s)) {
                if (before == k) {
                    return s;
                }
                before++;
            }
        }
        return NONE;
    }

    private long endsFrom(int p, long states) {
        long found = 0;
        for (int s = 0; s < STATES; s++) {
            if (contains(states, s)) {
                found |= endStates[p * STATES + s];
            }
        }
        return found;
    }

    private long mayEndIn(int p, long states) {
        long found = 0;
        for (int s = 0; s < STATES; s++) {
            if ((endStates[p * STATES + s] & states) != 0) {
                found |= 1L << s;
            }
        }
        return found;
    }

    private long statesOfKind(int kind, int p, int c) {
        switch (kind) {
            case 0:
                return ~(failStates[p] | foreverStates[p] | mayEndIn(p, ~conditionStates[c]));
            case 1:
                return ~(failStates[p] | mayEndIn(p, ~conditionStates[c]));
            case 2:
                return mayEndIn(p, conditionStates[c]);
            case 3:
                return failStates[p];
            case 4:
                return foreverStates[p];
            default:
                return ~(failStates[p] | foreverStates[p] | mayEndIn(p, ALL));
        }
    }

    private void workOut(int made, int kind, int x, int y, int z) {
        switch (kind) {
            case SKIP:
                workOutStay(made, ALL, 0);
                break;
            case FAIL:
                workOutStay(made, 0, ALL);
                break;
            case SET:
                workOutSet(made, x, y, z);
                break;
            case ANY:
                workOutAny(made, x);
                break;
            case ASSUME:
                workOutStay(made, conditionStates[x], 0);
                break;
            case CHECK:
                workOutStay(made, conditionStates[x], ~conditionStates[x]);
                break;
            case THEN:
                workOutThen(made, x, y);
                break;
            case IF:
                workOutIf(made, conditionStates[x], y, z);
                break;
            case CHOOSE:
                workOutChoose(made, x, y);
                break;
            default:
                workOutWhile(made, conditionStates[x], y);
                break;
        }
    }

    private void workOutStay(int made, long staying, long failing) {
        for (int s = 0; s < STATES; s++) {
            endStates[made * STATES + s] = staying & (1L << s);
        }
        failStates[made] = failing;
        foreverStates[made] = 0;
    }

    private void workOutSet(int made, int x, int y, int z) {
        for (int s = 0; s < STATES; s++) {
            int base = isVariable(y) ? valueOf(y, s) : 0;
            int target = withValue(s, x, (base + z) & 3);
            endStates[made * STATES + s] = 1L << target;
        }
        failStates[made] = 0;
        foreverStates[made] = 0;
    }

    private void workOutAny(int made, int x) {
        for (int s = 0; s < STATES; s++) {
            long targets = 0;
            for (int value = 0; value < VALUES; value++) {
                targets |= 1L << withValue(s, x, value);
            }
            endStates[made * STATES + s] = targets;
        }
        failStates[made] = 0;
        foreverStates[made] = 0;
    }

    private void workOutThen(int made, int x, int y) {
        for (int s = 0; s < STATES; s++) {
            endStates[made * STATES + s] = endsFrom(y, endStates[x * STATES + s]);
        }
        failStates[made] = failStates[x] | mayEndIn(x, failStates[y]);
        foreverStates[made] = foreverStates[x] | mayEndIn(x, foreverStates[y]);
    }

    private void workOutIf(int made, long test, int y, int z) {
        for (int s = 0; s < STATES; s++) {
            int taken = contains(test, s) ? y : z;
            endStates[made * STATES + s] = endStates[taken * STATES + s];
        }
        failStates[made] = (failStates[y] & test) | (failStates[z] & ~test);
        foreverStates[made] = (foreverStates[y] & test) | (foreverStates[z] & ~test);
    }

    private void workOutChoose(int made, int x, int y) {
        for (int s = 0; s < STATES; s++) {
            endStates[made * STATES + s] = endStates[x * STATES + s] | endStates[y * STATES + s];
        }
        failStates[made] = failStates[x] | failStates[y];
        foreverStates[made] = foreverStates[x] | foreverStates[y];
    }

    private void workOutWhile(int made, long test, int body) {
        long endless;
        if (chosenLevel == WALKING) {
            endless = walkRounds(test, body);
        } else {
            endless = closeRounds(test, body);
        }
        long failing = failStates[body] & test;
        long lasting = endless | (foreverStates[body] & test);
        failStates[made] = 0;
        foreverStates[made] = 0;
        for (int s = 0; s < STATES; s++) {
            long visited = reached[s] | (1L << s);
            endStates[made * STATES + s] = visited & ~test;
            if ((visited & failing) != 0) {
                failStates[made] |= 1L << s;
            }
            if ((visited & lasting) != 0) {
                foreverStates[made] |= 1L << s;
            }
        }
    }

    /**
     * Fills reached, and answers the states from which rounds can follow each other without end.
     * There are 64 states, so a run that can begin a 65th round has met one of them twice and can
     * go round from it for ever; and all that can be reached is reached within 64 rounds.
     */
    private long walkRounds(long test, int body) {
        long endless = 0;
        for (int s = 0; s < STATES; s++) {
            long now = 1L << s;
            long found = 0;
            for (int round = 0; round < STATES; round++) {
                now = endsFrom(body, now & test);
                found |= now;
            }
            reached[s] = found;
            if ((now & test) != 0) {
                endless |= 1L << s;
            }
        }
        return endless;
    }

    /**
     * Fills reached, and answers the states that rounds can lead back to themselves: whoever can
     * come to one of these can go on without end. After step m, reached knows every way through
     * states up to m.
     */
    private long closeRounds(long test, int body) {
        for (int s = 0; s < STATES; s++) {
            reached[s] = contains(test, s) ? endStates[body * STATES + s] : 0;
        }
        for (int m = 0; m < STATES; m++) {
            for (int s = 0; s < STATES; s++) {
                if (contains(reached[s], m)) {
                    reached[s] |= reached[m];
                }
            }
        }
        long endless = 0;
        for (int s = 0; s < STATES; s++) {
            if (contains(reached[s], s)) {
                endless |= 1L << s;
            }
        }
        return endless;
    }
}
