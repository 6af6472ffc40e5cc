/** One method a promise: ordinary inputs, the edges that the document names, and wrong inputs. */
public final class PromisesTest {
    private static final int BAD = -1;
    private static final int FULL = -2;
    private static final int NONE = -3;
    private static final int[] FAR = {-1, Integer.MIN_VALUE, Integer.MAX_VALUE, 64, 1 << 26};

    private static final Due due = new Due();

    public static void main(String[] args) {
        constants();
        newObject();
        conditionKinds();
        conditionRefusals();
        conditionFull();
        programBasicKinds();
        programComposedKinds();
        programRefusals();
        programPartsWithoutPart();
        programWeight();
        programFull();
        holds();
        drop();
        dropLeavesNothing();
        count();
        first();
        is();
        ends();
        end();
        after();
        refines();
        same();
        for (int level = 0; level < 2; level++) {
            whileThatEnds(level);
            whileThatMayGoOn(level);
            whileThatFails(level);
            whileWithinWhile(level);
            whileLongWay(level);
        }
        level();
        due.finish();
    }

    /** Conditions 0: variable 0 is 0; 1: not that; 2: always; 3: never; 4: variable 0 is 3. */
    private static OutcomeDesk deskWithConditions() {
        OutcomeDesk d = new OutcomeDesk();
        due.due("variable 0 is 0", d.condition(0, 0, 0), 0);
        due.due("not", d.condition(2, 0, 0), 1);
        due.due("always", d.condition(4, 0, 1), 2);
        due.due("never", d.condition(3, 0, 1), 3);
        due.due("variable 0 is 3", d.condition(0, 0, 3), 4);
        return d;
    }

    /** Programs 0: SKIP; 1: FAIL; 2: variable 0 plus 1; 3: any variable 0; 4: nothing at all; 5: for ever. */
    private static OutcomeDesk deskWithPrograms() {
        OutcomeDesk d = deskWithConditions();
        due.due("SKIP", d.program(0, 0, 0, 0), 0);
        due.due("FAIL", d.program(1, 0, 0, 0), 1);
        due.due("SET", d.program(2, 0, 0, 1), 2);
        due.due("ANY", d.program(3, 0, 0, 0), 3);
        due.due("ASSUME never", d.program(4, 3, 0, 0), 4);
        due.due("WHILE always SKIP", d.program(9, 2, 0, 0), 5);
        return d;
    }

    private static void counts(String what, OutcomeDesk d, int p, int c, int... want) {
        for (int kind = 0; kind < 6; kind++) {
            due.due(what + ": count of kind " + kind, d.count(kind, p, c), want[kind]);
        }
    }

    private static void endsAre(String what, OutcomeDesk d, int p, int s, int... want) {
        due.due(what + ": ends from " + s, d.ends(p, s), want.length);
        for (int k = 0; k < want.length; k++) {
            due.due(what + ": end " + k + " from " + s, d.end(p, s, k), want[k]);
        }
        due.due(what + ": end past the last from " + s, d.end(p, s, want.length), NONE);
    }

    private static void constants() {
        due.due("BAD", OutcomeDesk.BAD, BAD);
        due.due("FULL", OutcomeDesk.FULL, FULL);
        due.due("NONE", OutcomeDesk.NONE, NONE);
    }

    private static void newObject() {
        OutcomeDesk d = new OutcomeDesk();
        due.due("new: holds(0, 0)", d.holds(0, 0), false);
        due.due("new: count", d.count(3, 0, 0), BAD);
        due.due("new: first", d.first(5, 0, 0), BAD);
        due.due("new: is", d.is(1, 0, 0, 0), false);
        due.due("new: ends", d.ends(0, 0), BAD);
        due.due("new: end", d.end(0, 0, 0), BAD);
        due.due("new: after", d.after(0, 0), BAD);
        due.due("new: refines", d.refines(0, 0), false);
        due.due("new: same", d.same(0, 0), false);
        due.due("new: drop", d.drop(), 0);
        due.due("new: first condition", d.condition(0, 0, 0), 0);
        due.due("new: first program", d.program(0, 0, 0, 0), 0);
        OutcomeDesk other = new OutcomeDesk();
        due.due("objects are apart: drop", other.drop(), 0);
        due.due("objects are apart: holds", other.holds(0, 0), false);
    }

    private static void conditionKinds() {
        for (int x = 0; x < 3; x++) {
            for (int y = 0; y < 4; y++) {
                OutcomeDesk d = new OutcomeDesk();
                due.due("value condition", d.condition(0, x, y), 0);
                due.due("at most condition", d.condition(1, x, y), y < 3 ? 1 : BAD);
                for (int s = 0; s < 64; s++) {
                    int[] value = {s % 4, s / 4 % 4, s / 16};
                    due.due("variable " + x + " is " + y + " in " + s, d.holds(0, s), value[x] == y);
                    if (y < 3) {
                        due.due("variable " + x + " <= " + y + " in " + s, d.holds(1, s), value[x] <= value[y]);
                    }
                }
            }
        }
        OutcomeDesk d = new OutcomeDesk();
        d.condition(0, 0, 1);
        d.condition(0, 2, 3);
        due.due("not", d.condition(2, 0, Integer.MIN_VALUE), 2);
        due.due("and", d.condition(3, 0, 1), 3);
        due.due("or", d.condition(4, 0, 1), 4);
        due.due("not of or", d.condition(2, 4, 99), 5);
        for (int s = 0; s < 64; s++) {
            boolean a = s % 4 == 1;
            boolean b = s / 16 == 3;
            due.due("not in " + s, d.holds(2, s), !a);
            due.due("and in " + s, d.holds(3, s), a && b);
            due.due("or in " + s, d.holds(4, s), a || b);
            due.due("neither in " + s, d.holds(5, s), !a && !b);
        }
    }

    private static void conditionRefusals() {
        OutcomeDesk d = new OutcomeDesk();
        due.due("not of none", d.condition(2, 0, 0), BAD);
        due.due("and of none", d.condition(3, 0, 0), BAD);
        due.due("or of none", d.condition(4, 0, 0), BAD);
        d.condition(0, 0, 0);
        due.due("kind 5", d.condition(5, 0, 0), BAD);
        due.due("value 4", d.condition(0, 0, 4), BAD);
        due.due("variable 3", d.condition(0, 3, 0), BAD);
        due.due("at most: x is 3", d.condition(1, 3, 0), BAD);
        due.due("at most: y is 3", d.condition(1, 0, 3), BAD);
        due.due("not of itself", d.condition(2, 1, 0), BAD);
        due.due("and with itself", d.condition(3, 0, 1), BAD);
        due.due("and with itself", d.condition(3, 1, 0), BAD);
        due.due("or with itself", d.condition(4, 0, 1), BAD);
        due.due("or with itself", d.condition(4, 1, 0), BAD);
        for (int far : FAR) {
            due.due("far kind", d.condition(far, 0, 0), BAD);
            for (int kind = 0; kind < 5; kind++) {
                due.due("far x in kind " + kind, d.condition(kind, far, 0), BAD);
                if (kind != 2) {
                    due.due("far y in kind " + kind, d.condition(kind, 0, far), BAD);
                }
            }
        }
        due.due("what was refused made nothing", d.condition(0, 0, 0), 1);
    }

    private static void conditionFull() {
        OutcomeDesk d = new OutcomeDesk();
        for (int c = 0; c < 24; c++) {
            due.due("condition " + c, d.condition(0, c % 3, c % 4), c);
        }
        due.due("24 are there", d.condition(0, 0, 0), FULL);
        due.due("FULL comes before BAD", d.condition(-1, 0, 0), FULL);
        due.due("FULL comes before BAD", d.condition(2, 24, 0), FULL);
        due.due("the last one holds", d.holds(23, 3 * 16), true);
        due.due("no condition 24", d.holds(24, 0), false);
        due.due("programs still come", d.program(4, 23, 0, 0), 0);
        due.due("but not over condition 24", d.program(4, 24, 0, 0), BAD);
    }

    private static void programBasicKinds() {
        OutcomeDesk d = deskWithPrograms();
        endsAre("SKIP", d, 0, 63, 63);
        counts("SKIP", d, 0, 0, 16, 16, 16, 0, 0, 0);
        endsAre("FAIL", d, 1, 0);
        counts("FAIL", d, 1, 2, 0, 0, 0, 64, 0, 0);
        endsAre("ANY 0", d, 3, 22, 20, 21, 22, 23);
        counts("ANY 0", d, 3, 0, 0, 0, 64, 0, 0, 0);
        due.due("ANY 1", d.program(3, 1, 0, 0), 6);
        endsAre("ANY 1", d, 6, 22, 18, 22, 26, 30);
        due.due("ANY 2", d.program(3, 2, 0, 0), 7);
        endsAre("ANY 2", d, 7, 22, 6, 22, 38, 54);
        due.due("ASSUME", d.program(4, 0, 0, 0), 8);
        endsAre("ASSUME", d, 8, 4, 4);
        endsAre("ASSUME", d, 8, 5);
        counts("ASSUME", d, 8, 0, 64, 64, 16, 0, 0, 48);
        due.due("CHECK", d.program(5, 0, 0, 0), 9);
        endsAre("CHECK", d, 9, 4, 4);
        endsAre("CHECK", d, 9, 5);
        counts("CHECK", d, 9, 0, 16, 16, 16, 48, 0, 0);
        for (int x = 0; x < 3; x++) {
            setBecomes(x);
        }
    }

    private static void setBecomes(int x) {
        for (int y = 0; y < 4; y++) {
            OutcomeDesk d = new OutcomeDesk();
            for (int z = 0; z < 4; z++) {
                due.due("SET", d.program(2, x, y, z), z);
                for (int s = 0; s < 64; s++) {
                    int[] value = {s % 4, s / 4 % 4, s / 16};
                    value[x] = ((y == 3 ? 0 : value[y]) + z) % 4;
                    due.due("SET " + x + " " + y + " " + z + " from " + s, d.end(z, s, 0),
                        value[0] + 4 * value[1] + 16 * value[2]);
                }
                due.due("SET ends once", d.ends(z, 63), 1);
            }
        }
    }

    private static void programComposedKinds() {
        OutcomeDesk d = deskWithPrograms();
        due.due("ANY then CHECK's part", d.program(5, 1, 0, 0), 6);
        due.due("ANY then CHECK", d.program(6, 3, 6, 0), 7);
        endsAre("ANY then CHECK", d, 7, 4, 5, 6, 7);
        counts("ANY then CHECK", d, 7, 1, 0, 0, 64, 64, 0, 0);
        due.due("FAIL then for ever", d.program(6, 1, 5, 0), 8);
        counts("FAIL then for ever", d, 8, 2, 0, 0, 0, 64, 0, 0);
        due.due("nothing then FAIL", d.program(6, 4, 1, 0), 9);
        counts("nothing then FAIL", d, 9, 3, 64, 64, 0, 0, 0, 64);
        due.due("for ever then FAIL", d.program(6, 5, 1, 0), 10);
        counts("for ever then FAIL", d, 10, 3, 0, 64, 0, 0, 64, 0);
        due.due("plus 1 then ASSUME's part", d.program(4, 0, 0, 0), 11);
        due.due("plus 1 then ASSUME", d.program(6, 2, 11, 0), 12);
        counts("plus 1 then ASSUME", d, 12, 0, 64, 64, 16, 0, 0, 48);
        due.due("if 0 FAIL else for ever", d.program(7, 0, 1, 5), 13);
        counts("if 0 FAIL else for ever", d, 13, 2, 0, 48, 0, 16, 48, 0);
        due.due("if 0 plus 1 else SKIP", d.program(7, 0, 2, 0), 14);
        endsAre("if 0 plus 1 else SKIP", d, 14, 8, 9);
        endsAre("if 0 plus 1 else SKIP", d, 14, 9, 9);
        due.due("plus 1 or FAIL", d.program(8, 2, 1, 0), 15);
        endsAre("plus 1 or FAIL", d, 15, 3, 0);
        counts("plus 1 or FAIL", d, 15, 0, 0, 0, 16, 64, 0, 0);
        due.due("plus 1 or SKIP", d.program(8, 2, 0, 0), 16);
        endsAre("plus 1 or SKIP", d, 16, 3, 0, 3);
        due.due("for ever or nothing", d.program(8, 5, 4, 0), 17);
        counts("for ever or nothing", d, 17, 2, 0, 64, 0, 0, 64, 0);
        due.due("SKIP then for ever", d.program(6, 0, 17, 0), 18);
        counts("SKIP then for ever", d, 18, 2, 0, 64, 0, 0, 64, 0);
        due.due("if 0 for ever else FAIL", d.program(7, 0, 5, 1), 19);
        counts("if 0 for ever else FAIL", d, 19, 2, 0, 16, 0, 48, 16, 0);
        due.due("FAIL or SKIP", d.program(8, 1, 0, 0), 20);
        counts("FAIL or SKIP", d, 20, 0, 0, 0, 16, 64, 0, 0);
        due.due("nothing or for ever", d.program(8, 4, 5, 0), 21);
        due.due("the order does not matter", d.same(17, 21), true);
    }

    private static void programRefusals() {
        OutcomeDesk d = new OutcomeDesk();
        for (int kind = 4; kind < 10; kind++) {
            due.due("kind " + kind + " over nothing", d.program(kind, 0, 0, 0), BAD);
        }
        d.program(0, 0, 0, 0);
        due.due("IF without a condition", d.program(7, 0, 0, 0), BAD);
        due.due("WHILE without a condition", d.program(9, 0, 0, 0), BAD);
        d.condition(0, 0, 0);
        d.condition(0, 0, 1);
        due.due("kind 10", d.program(10, 0, 0, 0), BAD);
        due.due("SET variable 3", d.program(2, 3, 0, 0), BAD);
        due.due("SET to variable 4", d.program(2, 0, 4, 0), BAD);
        due.due("SET plus 4", d.program(2, 0, 0, 4), BAD);
        due.due("SET to 4", d.program(2, 0, 3, 4), BAD);
        due.due("ANY variable 3", d.program(3, 3, 0, 0), BAD);
        due.due("ASSUME condition 2", d.program(4, 2, 0, 0), BAD);
        due.due("CHECK condition 2", d.program(5, 2, 0, 0), BAD);
        due.due("then itself", d.program(6, 0, 1, 0), BAD);
        due.due("itself then", d.program(6, 1, 0, 0), BAD);
        due.due("IF condition 2", d.program(7, 2, 0, 0), BAD);
        due.due("IF over itself", d.program(7, 1, 1, 0), BAD);
        due.due("ELSE over itself", d.program(7, 1, 0, 1), BAD);
        due.due("CHOOSE itself", d.program(8, 1, 0, 0), BAD);
        due.due("CHOOSE itself", d.program(8, 0, 1, 0), BAD);
        due.due("WHILE condition 2", d.program(9, 2, 0, 0), BAD);
        due.due("WHILE over itself", d.program(9, 1, 1, 0), BAD);
        for (int far : FAR) {
            due.due("far kind", d.program(far, 0, 0, 0), BAD);
            for (int kind = 2; kind < 10; kind++) {
                due.due("far x in kind " + kind, d.program(kind, far, 0, 0), BAD);
            }
            for (int kind : new int[] {2, 6, 7, 8, 9}) {
                due.due("far y in kind " + kind, d.program(kind, 0, far, 0), BAD);
            }
            due.due("far z in SET", d.program(2, 0, 0, far), BAD);
            due.due("far z in IF", d.program(7, 0, 0, far), BAD);
        }
        due.due("what was refused made nothing", d.program(0, 0, 0, 0), 1);
    }

    private static void programPartsWithoutPart() {
        OutcomeDesk d = new OutcomeDesk();
        d.condition(0, 0, 0);
        int far = Integer.MIN_VALUE;
        due.due("SKIP has no parts", d.program(0, far, far, far), 0);
        due.due("FAIL has no parts", d.program(1, far, far, far), 1);
        due.due("ANY has x alone", d.program(3, 2, far, far), 2);
        due.due("ASSUME has x alone", d.program(4, 0, far, far), 3);
        due.due("CHECK has x alone", d.program(5, 0, far, far), 4);
        due.due("then has no z", d.program(6, 0, 0, far), 5);
        due.due("CHOOSE has no z", d.program(8, 0, 0, far), 6);
        due.due("WHILE has no z", d.program(9, 0, 0, far), 7);
    }

    private static void programWeight() {
        OutcomeDesk d = new OutcomeDesk();
        d.condition(0, 0, 0);
        for (int p = 0; p < 20; p++) {
            due.due("weight " + (p + 1), p == 0 ? d.program(0, 0, 0, 0) : d.program(9, 0, p - 1, 0), p);
        }
        // Program p weighs p + 1 now.
        due.due("WHILE of weight 21", d.program(9, 0, 19, 0), FULL);
        due.due("then of weight 21", d.program(6, 9, 9, 0), FULL);
        due.due("then of weight 20", d.program(6, 9, 8, 0), 20);
        due.due("CHOOSE of weight 21", d.program(8, 18, 0, 0), FULL);
        due.due("CHOOSE of weight 20", d.program(8, 17, 0, 0), 21);
        due.due("IF of weight 21", d.program(7, 0, 0, 18), FULL);
        due.due("IF of weight 20", d.program(7, 0, 0, 17), 22);
        due.due("IF of weight 20", d.program(7, 0, 17, 0), 23);
        due.due("IF of weight 21", d.program(7, 0, 18, 0), FULL);
        due.due("too heavy, but BAD first", d.program(6, 19, 24, 0), BAD);
        due.due("too heavy, but BAD first", d.program(7, 1, 19, 19), BAD);
        due.due("SET's numbers are no programs", d.program(2, 2, 2, 3), 24);
        due.due("SKIP's numbers are no programs", d.program(0, 19, 19, 19), 25);
        due.due("both weigh 1", d.program(6, 24, 25, 0), 26);
        due.due("that weighs 3", d.program(8, 26, 15, 0), 27);
        due.due("that weighs 3", d.program(8, 26, 16, 0), FULL);
    }

    private static void programFull() {
        OutcomeDesk d = new OutcomeDesk();
        for (int p = 0; p < 32; p++) {
            due.due("program " + p, d.program(2, 0, 3, p % 4), p);
        }
        due.due("32 are there", d.program(0, 0, 0, 0), FULL);
        due.due("FULL comes before BAD", d.program(10, 0, 0, 0), FULL);
        due.due("FULL comes before BAD", d.program(6, 32, 0, 0), FULL);
        for (int p = 0; p < 32; p++) {
            due.due("each keeps its own ends", d.end(p, 63, 0), 60 + p % 4);
        }
        due.due("no program 32", d.ends(32, 0), BAD);
        due.due("conditions still come", d.condition(0, 0, 0), 0);
    }

    private static void holds() {
        OutcomeDesk d = deskWithConditions();
        due.due("always in 63", d.holds(2, 63), true);
        due.due("always in 0", d.holds(2, 0), true);
        due.due("never in 63", d.holds(3, 63), false);
        due.due("no condition 5", d.holds(5, 0), false);
        for (int far : FAR) {
            due.due("far c", d.holds(far, 0), false);
            due.due("far s", d.holds(2, far), false);
        }
    }

    private static void drop() {
        OutcomeDesk d = deskWithPrograms();
        due.due("drop answers the programs", d.drop(), 6);
        due.due("no programs then", d.count(3, 0, 0), BAD);
        due.due("no programs then", d.ends(5, 0), BAD);
        due.due("no conditions then", d.holds(2, 0), false);
        due.due("no conditions then", d.condition(2, 0, 0), BAD);
        due.due("nothing twice", d.drop(), 0);
        due.due("numbers begin anew", d.condition(0, 1, 1), 0);
        due.due("conditions do not count", d.drop(), 0);
        due.due("numbers begin anew", d.condition(0, 1, 2), 0);
        due.due("numbers begin anew", d.program(3, 0, 0, 0), 0);
        due.due("what FAIL left is gone", d.program(2, 1, 3, 2), 1);
        counts("SET after drop", d, 1, 0, 64, 64, 64, 0, 0, 0);
        due.due("a program in place of an old one", d.program(9, 0, 1, 0), 2);
        counts("WHILE after drop", d, 2, 0, 0, 16, 0, 0, 16, 0);
        for (int p = 3; p < 32; p++) {
            due.due("32 programs again", d.program(1, 0, 0, 0), p);
        }
        for (int c = 1; c < 24; c++) {
            due.due("24 conditions again", d.condition(0, 0, 0), c);
        }
        due.due("full again", d.program(0, 0, 0, 0), FULL);
        due.due("full again", d.condition(0, 0, 0), FULL);
        due.due("drop when full", d.drop(), 32);
        due.due("room again", d.condition(0, 0, 0), 0);
        due.due("room again", d.program(5, 0, 0, 0), 0);
        counts("CHECK after drop", d, 0, 0, 16, 16, 16, 48, 0, 0);
    }

    /** Where programs stood that fail and go on for ever, new ones of every kind do only what is theirs. */
    private static void dropLeavesNothing() {
        OutcomeDesk d = deskWithPrograms();
        for (int p = 6; p < 32; p++) {
            due.due("FAIL or for ever", d.program(8, 1, 5, 0), p);
        }
        due.due("drop", d.drop(), 32);
        due.due("variable 0 is at most itself", d.condition(1, 0, 0), 0);
        int[][] kinds = {{0, 0, 0, 0}, {2, 1, 0, 2}, {3, 2, 0, 0}, {4, 0, 0, 0}, {5, 0, 0, 0},
            {6, 0, 1, 0}, {7, 0, 2, 1}, {8, 1, 2, 0}};
        for (int round = 0; round < 3; round++) {
            for (int[] k : kinds) {
                int made = d.program(k[0], k[1], k[2], k[3]);
                counts("kind " + k[0] + " after drop", d, made, 0, 64, 64, 64, 0, 0, 0);
            }
        }
        due.due("not that", d.condition(2, 0, 0), 1);
        due.due("WHILE never", d.program(9, 1, 0, 0), 24);
        counts("WHILE never after drop", d, 24, 0, 64, 64, 64, 0, 0, 0);
    }

    private static void count() {
        OutcomeDesk d = deskWithPrograms();
        counts("nothing at all", d, 4, 3, 64, 64, 0, 0, 0, 64);
        counts("for ever", d, 5, 3, 0, 64, 0, 0, 64, 0);
        due.due("kind -1", d.count(-1, 0, 0), BAD);
        due.due("kind 6", d.count(6, 0, 0), BAD);
        due.due("no program 6", d.count(3, 6, 0), BAD);
        for (int far : FAR) {
            due.due("far kind", d.count(far, 0, 0), BAD);
            for (int kind = 0; kind < 6; kind++) {
                due.due("far p", d.count(kind, far, 0), BAD);
                due.due("far c in kind " + kind, d.count(kind, 0, far), kind < 3 ? BAD : 0);
            }
        }
        for (int kind = 0; kind < 6; kind++) {
            due.due("no condition 5, kind " + kind, d.count(kind, 1, 5), new int[] {BAD, BAD, BAD, 64, 0, 0}[kind]);
        }
    }

    private static void first() {
        OutcomeDesk d = deskWithPrograms();
        due.due("SKIP's check", d.program(5, 4, 0, 0), 6);
        due.due("first of kind 0", d.first(0, 6, 4), 3);
        due.due("first of kind 1", d.first(1, 6, 4), 3);
        due.due("first of kind 2", d.first(2, 2, 4), 2);
        due.due("first of kind 3", d.first(3, 6, 4), 0);
        due.due("first of kind 4", d.first(4, 5, 0), 0);
        due.due("first of kind 5", d.first(5, 4, 0), 0);
        due.due("none of kind 0", d.first(0, 1, 2), NONE);
        due.due("none of kind 1", d.first(1, 1, 2), NONE);
        due.due("none of kind 2", d.first(2, 0, 3), NONE);
        due.due("none of kind 3", d.first(3, 0, 0), NONE);
        due.due("none of kind 4", d.first(4, 0, -5), NONE);
        due.due("none of kind 5", d.first(5, 0, 99), NONE);
        due.due("variable 2 is 3", d.condition(0, 2, 3), 5);
        due.due("variable 1 is 3", d.condition(0, 1, 3), 6);
        due.due("both", d.condition(3, 5, 6), 7);
        due.due("all three", d.condition(3, 7, 4), 8);
        due.due("state 63 alone", d.first(2, 0, 8), 63);
        due.due("kind 6", d.first(6, 0, 0), BAD);
        for (int far : FAR) {
            due.due("far kind", d.first(far, 0, 0), BAD);
            for (int kind = 0; kind < 6; kind++) {
                due.due("far p", d.first(kind, far, 0), BAD);
                due.due("far c", d.first(kind, 0, far), kind < 3 ? BAD : NONE);
            }
        }
    }

    private static void is() {
        OutcomeDesk d = deskWithPrograms();
        due.due("a CHECK", d.program(5, 0, 0, 0), 6);
        for (int s = 0; s < 64; s++) {
            boolean zero = s % 4 == 0;
            due.due("CHECK: kind 0 in " + s, d.is(0, 6, 2, s), zero);
            due.due("CHECK: kind 1 in " + s, d.is(1, 6, 0, s), zero);
            due.due("CHECK: kind 3 in " + s, d.is(3, 6, -1, s), !zero);
            due.due("plus 1: kind 2 in " + s, d.is(2, 2, 0, s), s % 4 == 3);
            due.due("for ever: kind 4 in " + s, d.is(4, 5, 99, s), true);
            due.due("nothing: kind 5 in " + s, d.is(5, 4, -9, s), true);
        }
        due.due("state 64", d.is(4, 5, 0, 64), false);
        due.due("kind 6", d.is(6, 4, 0, 0), false);
        for (int far : FAR) {
            due.due("far kind", d.is(far, 4, 0, 0), false);
            due.due("far p", d.is(5, far, 0, 0), false);
            due.due("far c", d.is(0, 4, far, 0), false);
            due.due("far c", d.is(1, 4, far, 0), false);
            due.due("far c", d.is(2, 0, far, 0), false);
            due.due("far s", d.is(5, 4, 0, far), false);
        }
    }

    private static void ends() {
        OutcomeDesk d = deskWithPrograms();
        int[] want = {1, 0, 1, 4, 0, 0};
        for (int p = 0; p < 6; p++) {
            due.due("ends from 0", d.ends(p, 0), want[p]);
            due.due("ends from 63", d.ends(p, 63), want[p]);
            due.due("no state 64", d.ends(p, 64), BAD);
        }
        due.due("ANY 1", d.program(3, 1, 0, 0), 6);
        due.due("ANY 2", d.program(3, 2, 0, 0), 7);
        due.due("ANY 0 1", d.program(6, 3, 6, 0), 8);
        due.due("ANY 0 1 2", d.program(6, 8, 7, 0), 9);
        due.due("all states", d.ends(9, 17), 64);
        due.due("the last of all states", d.end(9, 17, 63), 63);
        due.due("none after all states", d.end(9, 17, 64), NONE);
        due.due("no program 10", d.ends(10, 0), BAD);
        for (int far : FAR) {
            due.due("far p", d.ends(far, 0), BAD);
            due.due("far s", d.ends(0, far), BAD);
        }
    }

    private static void end() {
        OutcomeDesk d = deskWithPrograms();
        endsAre("ANY", d, 3, 63, 60, 61, 62, 63);
        due.due("FAIL ends nowhere", d.end(1, 0, 0), NONE);
        due.due("BAD before NONE", d.end(1, 64, -1), BAD);
        due.due("no program 6", d.end(6, 0, 0), BAD);
        for (int far : FAR) {
            due.due("far k", d.end(3, 5, far), NONE);
            due.due("far p", d.end(far, 5, 0), BAD);
            due.due("far s", d.end(3, far, 0), BAD);
        }
    }

    private static void after() {
        OutcomeDesk d = deskWithPrograms();
        due.due("after SKIP", d.after(0, 0), 16);
        due.due("after SKIP, always", d.after(0, 2), 64);
        due.due("after SKIP, never", d.after(0, 3), 0);
        due.due("after FAIL", d.after(1, 2), 0);
        due.due("after plus 1", d.after(2, 1), 48);
        due.due("after ANY", d.after(3, 0), 64);
        due.due("after nothing", d.after(4, 2), 0);
        due.due("after for ever", d.after(5, 2), 0);
        due.due("SET to 0", d.program(2, 0, 3, 0), 6);
        due.due("each state counts once", d.after(6, 2), 16);
        due.due("plus 1 or FAIL", d.program(8, 2, 1, 0), 7);
        due.due("that it may fail too plays no part", d.after(7, 0), 16);
        due.due("no program 8", d.after(8, 0), BAD);
        due.due("no condition 5", d.after(0, 5), BAD);
        for (int far : FAR) {
            due.due("far p", d.after(far, 0), BAD);
            due.due("far c", d.after(0, far), BAD);
        }
    }

    private static void refines() {
        OutcomeDesk d = deskWithPrograms();
        // Row p, column q: SKIP, FAIL, plus 1, ANY, nothing, for ever.
        String[] want = {"100010", "111111", "001010", "101110", "000010", "111111"};
        for (int p = 0; p < 6; p++) {
            for (int q = 0; q < 6; q++) {
                due.due("refines " + p + " " + q, d.refines(p, q), want[p].charAt(q) == '1');
            }
        }
        due.due("a CHECK", d.program(5, 0, 0, 0), 6);
        due.due("if 0 SKIP else for ever", d.program(7, 0, 0, 5), 7);
        due.due("if 0 SKIP else plus 1", d.program(7, 0, 0, 2), 8);
        due.due("where p may fail q is free", d.refines(6, 8), true);
        due.due("where p may go on for ever q is free", d.refines(7, 8), true);
        due.due("q may not fail where p does not", d.refines(8, 6), false);
        due.due("q may not go on for ever where p does not", d.refines(8, 7), false);
        due.due("failing for going on", d.refines(7, 6), true);
        due.due("going on for failing", d.refines(6, 7), true);
        due.due("ANY or FAIL", d.program(8, 3, 1, 0), 9);
        due.due("a safe state asks for the ends of p", d.refines(8, 3), false);
        due.due("an unsafe state asks for nothing", d.refines(9, 5), true);
        due.due("no program 10", d.refines(10, 0), false);
        due.due("no program 10", d.refines(1, 10), false);
        for (int far : FAR) {
            due.due("far p", d.refines(far, 4), false);
            due.due("far q", d.refines(1, far), false);
            due.due("far both", d.refines(far, far), false);
        }
        differenceInOneState(0);
        differenceInOneState(1);
        differenceInOneState(3);
    }

    /** p and q differ alone in the state in which every variable has the value. */
    private static void differenceInOneState(int value) {
        OutcomeDesk d = deskWithPrograms();
        int alone = d.condition(0, 0, value);
        for (int x = 1; x < 3; x++) {
            int next = d.condition(0, x, value);
            alone = d.condition(3, alone, next);
        }
        due.due("the state alone", d.first(2, 0, alone), 21 * value);
        due.due("there FAIL", d.program(7, alone, 1, 0), 6);
        due.due("there for ever", d.program(7, alone, 5, 0), 7);
        due.due("there ANY", d.program(7, alone, 3, 0), 8);
        for (int p = 6; p < 9; p++) {
            due.due("SKIP to " + p, d.refines(0, p), false);
            due.due(p + " to SKIP", d.refines(p, 0), true);
            due.due("same(0, " + p + ")", d.same(0, p), false);
            due.due("same(" + p + ", 0)", d.same(p, 0), false);
        }
    }

    private static void same() {
        OutcomeDesk d = deskWithPrograms();
        for (int p = 0; p < 6; p++) {
            for (int q = 0; q < 6; q++) {
                due.due("same " + p + " " + q, d.same(p, q), p == q);
            }
        }
        due.due("plus 2", d.program(2, 0, 0, 2), 6);
        due.due("plus 1 twice", d.program(6, 2, 2, 0), 7);
        due.due("plus 2 is plus 1 twice", d.same(6, 7), true);
        due.due("SKIP or FAIL", d.program(8, 0, 1, 0), 8);
        due.due("the ends alone are not enough", d.same(0, 8), false);
        due.due("SKIP or for ever", d.program(8, 0, 5, 0), 9);
        due.due("the ends alone are not enough", d.same(9, 0), false);
        due.due("failing is not going on", d.same(8, 9), false);
        due.due("ANY or FAIL", d.program(8, 3, 1, 0), 10);
        due.due("failing does not hide the ends", d.same(8, 10), false);
        due.due("no program 11", d.same(11, 11), false);
        due.due("no program 11", d.same(0, 11), false);
        for (int far : FAR) {
            due.due("far p", d.same(far, 0), false);
            due.due("far q", d.same(0, far), false);
            due.due("far both", d.same(far, far), false);
        }
    }

    private static void whileThatEnds(int level) {
        OutcomeDesk d = deskWithPrograms();
        due.due("level " + level, d.level(level), true);
        due.due("WHILE not 0 plus 1", d.program(9, 1, 2, 0), 6);
        counts("WHILE not 0 plus 1", d, 6, 0, 64, 64, 64, 0, 0, 0);
        endsAre("WHILE not 0 plus 1", d, 6, 57, 56);
        due.due("WHILE never for ever", d.program(9, 3, 5, 0), 7);
        due.due("it is SKIP", d.same(7, 0), true);
        due.due("WHILE always nothing", d.program(9, 2, 4, 0), 8);
        counts("WHILE always nothing", d, 8, 3, 64, 64, 0, 0, 0, 64);
    }

    private static void whileThatMayGoOn(int level) {
        OutcomeDesk d = deskWithPrograms();
        due.due("level " + level, d.level(level), true);
        due.due("WHILE not 0 ANY", d.program(9, 1, 3, 0), 6);
        counts("WHILE not 0 ANY", d, 6, 0, 16, 64, 64, 0, 48, 0);
        endsAre("WHILE not 0 ANY", d, 6, 9, 8);
        due.due("WHILE always plus 1", d.program(9, 2, 2, 0), 7);
        due.due("it goes on for ever", d.same(7, 5), true);
        due.due("plus 2", d.program(2, 0, 0, 2), 8);
        due.due("WHILE not 0 plus 2", d.program(9, 1, 8, 0), 9);
        counts("WHILE not 0 plus 2", d, 9, 0, 32, 64, 32, 0, 32, 0);
        due.due("first for ever", d.first(4, 9, 0), 1);
        due.due("WHILE 0 for ever", d.program(9, 0, 5, 0), 10);
        counts("WHILE 0 for ever", d, 10, 1, 48, 64, 48, 0, 16, 0);
        due.due("if 3 for ever else plus 1", d.program(7, 4, 5, 2), 11);
        due.due("WHILE not 0 that", d.program(9, 1, 11, 0), 12);
        counts("WHILE not 0 that", d, 12, 0, 16, 64, 16, 0, 48, 0);
    }

    private static void whileThatFails(int level) {
        OutcomeDesk d = deskWithPrograms();
        due.due("level " + level, d.level(level), true);
        due.due("if 3 FAIL else plus 1", d.program(7, 4, 1, 2), 6);
        due.due("WHILE not 0 that", d.program(9, 1, 6, 0), 7);
        counts("WHILE not 0 that", d, 7, 0, 16, 16, 16, 48, 0, 0);
        due.due("WHILE 0 FAIL", d.program(9, 0, 1, 0), 8);
        counts("WHILE 0 FAIL", d, 8, 1, 48, 48, 48, 16, 0, 0);
        due.due("ANY or FAIL", d.program(8, 3, 1, 0), 9);
        due.due("WHILE 0 that", d.program(9, 0, 9, 0), 10);
        counts("WHILE 0 that", d, 10, 1, 48, 48, 64, 16, 16, 0);
        endsAre("WHILE 0 that", d, 10, 4, 5, 6, 7);
        due.due("WHILE 3 that", d.program(9, 4, 9, 0), 11);
        counts("WHILE 3 that", d, 11, 0, 16, 16, 32, 16, 16, 0);
    }

    private static void whileWithinWhile(int level) {
        OutcomeDesk d = deskWithPrograms();
        due.due("level " + level, d.level(level), true);
        due.due("variable 1 is not 3", d.condition(0, 1, 3), 5);
        due.due("variable 1 is not 3", d.condition(2, 5, 0), 6);
        due.due("WHILE not 0 plus 1", d.program(9, 1, 2, 0), 6);
        due.due("variable 1 plus 1", d.program(2, 1, 1, 1), 7);
        due.due("inner then outer step", d.program(6, 6, 7, 0), 8);
        due.due("WHILE variable 1 is not 3", d.program(9, 6, 8, 0), 9);
        counts("both loops end", d, 9, 5, 64, 64, 64, 0, 0, 0);
        endsAre("both loops end", d, 9, 1, 12);
        endsAre("no round", d, 9, 13, 13);
        due.due("inner alone", d.program(9, 6, 6, 0), 10);
        counts("the outer loop goes on", d, 10, 5, 16, 64, 16, 0, 48, 0);
        due.due("WHILE not 0 ANY", d.program(9, 1, 3, 0), 11);
        due.due("inner then outer step", d.program(6, 11, 7, 0), 12);
        due.due("WHILE variable 1 is not 3", d.program(9, 6, 12, 0), 13);
        counts("the inner loop may go on", d, 13, 5, 28, 64, 64, 0, 36, 0);
    }

    /** A loop whose only way goes through all 64 states, so that a bound too small would show. */
    private static void whileLongWay(int level) {
        OutcomeDesk d = deskWithConditions();
        due.due("level " + level, d.level(level), true);
        d.condition(0, 1, 0);
        d.condition(0, 2, 0);
        d.condition(3, 0, 5);
        due.due("state 0", d.condition(3, 6, 7), 8);
        due.due("not state 0", d.condition(2, 8, 0), 9);
        d.program(2, 0, 0, 1);
        d.program(2, 1, 1, 1);
        d.program(2, 2, 2, 1);
        d.program(0, 0, 0, 0);
        due.due("variables 0 and 1 are 0", d.condition(3, 0, 5), 10);
        due.due("carry to variable 2", d.program(7, 10, 2, 3), 4);
        due.due("carry to variable 1", d.program(7, 0, 1, 3), 5);
        d.program(6, 0, 5, 0);
        due.due("the next state", d.program(6, 6, 4, 0), 7);
        for (int s = 0; s < 64; s++) {
            due.due("the next state of " + s, d.end(7, s, 0), (s + 1) % 64);
        }
        due.due("WHILE not state 0", d.program(9, 9, 7, 0), 8);
        counts("WHILE not state 0", d, 8, 8, 64, 64, 64, 0, 0, 0);
        endsAre("WHILE not state 0", d, 8, 1, 0);
        due.due("WHILE always", d.program(9, 2, 7, 0), 9);
        counts("WHILE always", d, 9, 2, 0, 64, 0, 0, 64, 0);
        due.due("state 0 fails", d.program(5, 9, 0, 0), 10);
        due.due("next state, failing in 0", d.program(6, 10, 7, 0), 11);
        due.due("WHILE always", d.program(9, 2, 11, 0), 12);
        counts("it fails in the end", d, 12, 2, 0, 0, 0, 64, 0, 0);
        for (int value = 1; value < 4; value++) {
            longWayTo(d, value);
        }
    }

    /** The way from the state after the last one leads through state 63 and state 0. */
    private static void longWayTo(OutcomeDesk d, int value) {
        int is = d.condition(0, 0, value);
        int other = d.condition(1, 2, 1);
        int both = d.condition(3, is, other);
        int until = d.condition(2, both, 0);
        int made = d.program(9, until, 7, 0);
        due.due("WHILE until variable 0 is " + value, made >= 0, true);
        for (int s = 0; s < 64; s++) {
            int last = s;
            while (last % 4 != value || last / 16 > last / 4 % 4) {
                last = (last + 1) % 64;
            }
            due.due("the long way from " + s, d.end(made, s, 0), last);
        }
    }

    private static void level() {
        OutcomeDesk d = new OutcomeDesk();
        due.due("level 0", d.level(0), true);
        due.due("level 0 again", d.level(0), true);
        due.due("level 1", d.level(1), true);
        due.due("level 2", d.level(2), false);
        for (int far : FAR) {
            due.due("far level", d.level(far), false);
        }
        levelShowsInNoAnswer();
    }

    /** The same loops made at both levels are the same, whatever the level is when they are asked. */
    private static void levelShowsInNoAnswer() {
        OutcomeDesk d = deskWithPrograms();
        for (int c = 0; c < 3; c++) {
            for (int body = 0; body < 4; body++) {
                due.due("level 1", d.level(1), true);
                int one = d.program(9, c, body, 0);
                due.due("refused levels change nothing", d.level(2), false);
                due.due("level 0", d.level(0), true);
                int other = d.program(9, c, body, 0);
                due.due("the loops are there", one >= 0 && other == one + 1, true);
                due.due("same at level 0", d.same(one, other), true);
                due.due("level 1", d.level(1), true);
                due.due("same at level 1", d.same(one, other), true);
                due.due("as many ends", d.after(one, 2), d.after(other, 2));
            }
        }
        due.due("drop at level 1", d.drop(), 30);
        due.due("level 0 after drop", d.level(0), true);
    }
}
