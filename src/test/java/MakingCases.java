/** Tests of the promises 1 to 5 and 14 at their edges, one a sentence. */
final class MakingCases {
    private static final int BAD = Watched.BAD;
    private static final int FULL = Watched.FULL;
    private static final int ZERO = Watched.ZERO;
    private static final int NOT_ZERO = Watched.NOT_ZERO;
    private static final int ALWAYS = Watched.ALWAYS;
    private static final int NEVER = Watched.NEVER;
    private static final int THREE = Watched.THREE;
    private static final int FAIL = Watched.FAIL;
    private static final int FOREVER = Watched.FOREVER;

    private static final String NEW_OBJECT = "Promise 1: A new object";
    private static final String CONDITION = "Promise 2: condition";
    private static final String PROGRAM = "Promise 3: program";
    private static final String HOLDS = "Promise 4: holds";
    private static final String DROP = "Promise 5: drop";
    private static final String LEVEL = "Promise 14: level";

    private MakingCases() { }

    @Sentence(in = NEW_OBJECT, words = "No conditions")
    static void newHasNoConditions(Due due) {
        Watched d = new Watched(due);
        for (int s = 0; s < 64; s++) {
            d.holds(0, s, false);
        }
        d.condition(2, 0, 0, BAD);
        d.condition(3, 0, 0, BAD);
        d.condition(4, 0, 0, BAD);
        d.program(4, 0, 0, 0, BAD);
        d.program(5, 0, 0, 0, BAD);
        d.program(0, 0, 0, 0, 0);
        d.program(7, 0, 0, 0, BAD);
        d.program(9, 0, 0, 0, BAD);
        d.count(0, 0, 0, BAD);
        d.after(0, 0, BAD);
        d.condition(0, 0, 0, 0);
    }

    @Sentence(in = NEW_OBJECT, words = "no programs")
    static void newHasNoPrograms(Due due) {
        Watched d = new Watched(due);
        d.condition(1, 0, 0, 0);
        for (int kind = 0; kind < 6; kind++) {
            d.count(kind, 0, 0, BAD);
            d.first(kind, 0, 0, BAD);
            d.is(kind, 0, 0, 0, false);
        }
        d.ends(0, 0, BAD);
        d.end(0, 0, 0, BAD);
        d.after(0, 0, BAD);
        d.refines(0, 0, false);
        d.same(0, 0, false);
        for (int kind = 6; kind < 10; kind++) {
            d.program(kind, 0, 0, 0, BAD);
        }
        d.drop(0);
        d.program(0, 0, 0, 0, 0);
    }

    @Sentence(in = NEW_OBJECT, words = "No conditions, no programs")
    static void newIsApartFromOthers(Due due) {
        Watched other = Watched.withPrograms(due);
        Watched d = new Watched(due);
        d.holds(ALWAYS, 0, false);
        d.ends(0, 0, BAD);
        d.drop(0);
        other.holds(ALWAYS, 0, true);
        other.drop(6);
    }

    @Sentence(in = NEW_OBJECT, words = "the level is 1.")
    static void newIsAtLevel1(Due due) {
        for (int turn = 0; turn < 2; turn++) {
            Watched d = new Watched(due);
            d.heldLevel(1);
            if (turn == 1) {
                d.level(1, true);
            }
            d.condition(0, 0, 0, 0);
            d.condition(2, 0, 0, 1);
            d.program(2, 0, 0, 2, 0);
            d.program(9, 1, 0, 0, 1);
            d.counts(1, 0, 32, 64, 32, 0, 32, 0);
            d.endsIn(1, 62, 60);
        }
    }

    @Sentence(in = CONDITION, words = "Makes a condition.")
    static void conditionIsMade(Due due) {
        Watched d = new Watched(due);
        d.holds(0, 63, false);
        d.condition(0, 2, 3, 0);
        d.holds(0, 63, true);
        d.condition(2, 0, 0, 1);
        d.holds(0, 63, true);
        d.holds(1, 63, false);
        d.holds(1, 0, true);
    }

    private static Watched withAllConditions(Due due) {
        Watched d = new Watched(due);
        for (int c = 0; c < 24; c++) {
            d.condition(0, c % 3, c % 4, c);
        }
        return d;
    }

    @Sentence(in = CONDITION, words = "24 are there: FULL")
    static void conditionFull(Due due) {
        Watched d = withAllConditions(due);
        for (int kind = 0; kind < 5; kind++) {
            d.condition(kind, 0, 0, FULL);
        }
        d.holds(24, 0, false);
        for (int c = 0; c < 24; c++) {
            d.holds(c, 21 * (c % 4), true);
            d.holds(c, 63 - 21 * (c % 4), false);
        }
        d.program(4, 23, 0, 0, 0);
        d.program(4, 24, 0, 0, BAD);
        d.drop(1);
        d.condition(0, 0, 0, 0);
    }

    @Sentence(in = CONDITION, words = "Tested in this order")
    static void conditionFullBeforeBad(Due due) {
        Watched d = withAllConditions(due);
        d.condition(-1, 0, 0, FULL);
        d.condition(5, 0, 0, FULL);
        d.condition(0, 3, 0, FULL);
        d.condition(0, 0, 4, FULL);
        d.condition(2, 24, 0, FULL);
        d.condition(3, 0, -1, FULL);
        d.condition(Integer.MIN_VALUE, Integer.MIN_VALUE, Integer.MIN_VALUE, FULL);
        d.condition(Integer.MAX_VALUE, Integer.MAX_VALUE, Integer.MAX_VALUE, FULL);
    }

    @Sentence(in = CONDITION, words = "kind outside 0..4")
    static void conditionKindOutside(Due due) {
        Watched d = new Watched(due);
        for (int kind = 0; kind < 5; kind++) {
            d.condition(kind, 0, 0, kind);
        }
        for (int kind : Watched.outside(0, 4)) {
            d.condition(kind, 0, 0, BAD);
        }
    }

    @Sentence(in = CONDITION, words = "or x or y not as it must be")
    static void conditionPartsOutside(Due due) {
        Watched d = new Watched(due);
        // There are 9 conditions, so that the bounds of variables, values and conditions differ.
        for (int c = 0; c < 9; c++) {
            d.condition(0, 0, 0, c);
        }
        int[] lastX = {2, 2, 8, 8, 8};
        int[] lastY = {3, 2, -1, 8, 8};
        for (int kind = 0; kind < 5; kind++) {
            for (int x : Watched.outside(0, lastX[kind])) {
                d.condition(kind, x, 0, BAD);
            }
            if (kind != 2) {
                for (int y : Watched.outside(0, lastY[kind])) {
                    d.condition(kind, 0, y, BAD);
                }
            }
        }
        for (int kind = 0; kind < 5; kind++) {
            d.condition(kind, lastX[kind], lastY[kind], 9 + kind);
        }
    }

    @Sentence(in = CONDITION, words = "(y plays no part in kind 2): BAD.")
    static void notHasNoY(Due due) {
        Watched d = new Watched(due);
        d.condition(0, 0, 0, 0);
        int made = 1;
        for (int y : Watched.outside(0, 23)) {
            d.condition(2, 0, y, made);
            d.holds(made, 0, false);
            d.holds(made, 63, true);
            made++;
            d.condition(2, -1, y, BAD);
            d.condition(2, made, y, BAD);
        }
    }

    @Sentence(in = CONDITION, words = "Else answers its number.")
    static void conditionRefusedLeavesNothing(Due due) {
        Watched d = new Watched(due);
        for (int c = 0; c < 24; c++) {
            d.condition(5, 0, 0, BAD);
            d.condition(0, 0, 4, BAD);
            d.condition(3, 0, c, BAD);
            d.holds(c, 0, false);
            d.condition(0, 0, c % 4, c);
            d.condition(-1, 0, 0, c < 23 ? BAD : FULL);
        }
        for (int c = 0; c < 24; c++) {
            d.holds(c, c % 4, true);
            d.holds(c, (c + 1) % 4, false);
        }
    }

    @Sentence(in = PROGRAM, words = "Makes a program.")
    static void programIsMade(Due due) {
        Watched d = new Watched(due);
        d.ends(0, 63, BAD);
        d.program(0, 0, 0, 0, 0);
        d.endsIn(0, 63, 63);
        d.program(1, 0, 0, 0, 1);
        d.endsIn(0, 63, 63);
        d.endsIn(1, 63);
    }

    private static Watched withAllPrograms(Due due) {
        Watched d = new Watched(due);
        d.condition(0, 0, 0, 0);
        for (int p = 0; p < 32; p++) {
            d.program(2, 0, 3, p % 4, p);
        }
        return d;
    }

    @Sentence(in = PROGRAM, words = "32 are there: FULL")
    static void programFull(Due due) {
        Watched d = withAllPrograms(due);
        for (int kind = 0; kind < 10; kind++) {
            d.program(kind, 0, 0, 0, FULL);
        }
        d.ends(32, 0, BAD);
        for (int p = 0; p < 32; p++) {
            d.endsIn(p, 63, 60 + p % 4);
            d.count(3, p, 0, 0);
            d.count(4, p, 0, 0);
        }
        d.condition(0, 0, 1, 1);
        d.drop(32);
        d.program(0, 0, 0, 0, 0);
    }

    @Sentence(in = PROGRAM, words = "32 are there")
    static void programLastOfEachKind(Due due) {
        for (int kind = 0; kind < 10; kind++) {
            Watched d = new Watched(due);
            d.condition(0, 0, 0, 0);
            d.program(3, 0, 0, 0, 0);
            for (int p = 1; p < 31; p++) {
                d.program(1, 0, 0, 0, p);
            }
            d.program(kind, 0, 0, 0, 31);
            // From state 63: SKIP, FAIL, SET to itself, ANY, ASSUME, CHECK, ANY twice, ANY either way, ANY or ANY, no round.
            d.ends(31, 63, new int[] {1, 0, 1, 4, 0, 0, 4, 4, 4, 1}[kind]);
            d.count(3, 31, 0, new int[] {0, 64, 0, 0, 0, 48, 0, 0, 0, 0}[kind]);
            d.count(4, 31, 0, kind == 9 ? 16 : 0);
            d.ends(0, 0, 4);
            d.count(3, 30, 0, 64);
            d.program(kind, 0, 0, 0, FULL);
        }
    }

    @Sentence(in = PROGRAM, words = "Tested in this order")
    static void programFullBeforeBad(Due due) {
        Watched d = withAllPrograms(due);
        d.program(-1, 0, 0, 0, FULL);
        d.program(10, 0, 0, 0, FULL);
        d.program(2, 3, 0, 0, FULL);
        d.program(2, 0, 0, 4, FULL);
        d.program(4, 1, 0, 0, FULL);
        d.program(6, 32, 0, 0, FULL);
        d.program(7, 0, 0, 32, FULL);
        d.program(9, 0, -1, 0, FULL);
        d.program(Integer.MIN_VALUE, Integer.MIN_VALUE, Integer.MIN_VALUE, Integer.MIN_VALUE, FULL);
        d.program(Integer.MAX_VALUE, Integer.MAX_VALUE, Integer.MAX_VALUE, Integer.MAX_VALUE, FULL);
    }

    @Sentence(in = PROGRAM, words = "kind outside 0..9")
    static void programKindOutside(Due due) {
        Watched d = new Watched(due);
        d.condition(0, 0, 0, 0);
        for (int kind = 0; kind < 10; kind++) {
            d.program(kind, 0, 0, 0, kind);
        }
        for (int kind : Watched.outside(0, 9)) {
            d.program(kind, 0, 0, 0, BAD);
        }
    }

    @Sentence(in = PROGRAM, words = "or x, y or z not as it must be")
    static void programPartsOutside(Due due) {
        Watched d = new Watched(due);
        // There are 6 conditions and 9 programs, so that the bounds of variables, values, conditions and programs differ.
        for (int c = 0; c < 6; c++) {
            d.condition(0, 0, 0, c);
        }
        for (int p = 0; p < 9; p++) {
            d.program(0, 0, 0, 0, p);
        }
        int[] lastX = {-1, -1, 2, 2, 5, 5, 8, 5, 8, 5};
        int[] lastY = {-1, -1, 3, -1, -1, -1, 8, 8, 8, 8};
        int[] lastZ = {-1, -1, 3, -1, -1, -1, -1, 8, -1, -1};
        for (int kind = 2; kind < 10; kind++) {
            for (int x : Watched.outside(0, lastX[kind])) {
                d.program(kind, x, 0, 0, BAD);
            }
            if (lastY[kind] >= 0) {
                for (int y : Watched.outside(0, lastY[kind])) {
                    d.program(kind, 0, y, 0, BAD);
                }
            }
            if (lastZ[kind] >= 0) {
                for (int z : Watched.outside(0, lastZ[kind])) {
                    d.program(kind, 0, 0, z, BAD);
                }
            }
        }
        for (int kind = 2; kind < 10; kind++) {
            d.program(kind, lastX[kind], lastY[kind], lastZ[kind], 7 + kind);
        }
    }

    @Sentence(in = PROGRAM, words = "(those that a kind does not have play no part): BAD")
    static void programPartsThatAreNotHad(Due due) {
        for (int far : Watched.outside(0, 31)) {
            Watched d = new Watched(due);
            d.condition(0, 0, 0, 0);
            d.program(0, far, far, far, 0);
            d.program(1, far, far, far, 1);
            d.program(3, 0, far, far, 2);
            d.program(4, 0, far, far, 3);
            d.program(5, 0, far, far, 4);
            d.program(6, 0, 0, far, 5);
            d.program(8, 0, 0, far, 6);
            d.program(9, 0, 0, far, 7);
            d.endsIn(0, 63, 63);
            d.count(3, 1, 0, 64);
            d.endsIn(2, 63, 60, 61, 62, 63);
            d.endsIn(3, 60, 60);
            d.count(3, 4, 0, 48);
            d.same(5, 0, true);
            d.same(6, 0, true);
            d.count(4, 7, 0, 16);
        }
    }

    /** Program p weighs p + 1, up to 20. */
    private static Watched withWeights(Due due) {
        Watched d = new Watched(due);
        d.condition(0, 0, 0, 0);
        d.program(0, 0, 0, 0, 0);
        for (int p = 1; p < 20; p++) {
            d.program(9, 0, p - 1, 0, p);
        }
        return d;
    }

    @Sentence(in = PROGRAM, words = "its weight would be above 20: FULL.")
    static void programTooHeavy(Due due) {
        Watched d = withWeights(due);
        d.program(6, 17, 1, 0, FULL);
        d.program(7, 0, 17, 1, FULL);
        d.program(8, 17, 1, 0, FULL);
        d.program(9, 0, 19, 0, FULL);
        d.program(6, 19, 19, 0, FULL);
        d.program(7, 0, 19, 19, FULL);
        d.program(8, 19, 19, 0, FULL);
        d.ends(20, 0, BAD);
        d.program(6, 17, 0, 0, 20);
        d.program(7, 0, 17, 0, 21);
        d.program(8, 17, 0, 0, 22);
        d.program(9, 0, 18, 0, 23);
    }

    @Sentence(in = PROGRAM, words = "BAD; its weight would be above 20")
    static void programBadBeforeTooHeavy(Due due) {
        Watched d = withWeights(due);
        d.program(6, 19, 20, 0, BAD);
        d.program(6, 20, 19, 0, BAD);
        d.program(7, 1, 19, 19, BAD);
        d.program(7, 0, 19, 20, BAD);
        d.program(7, 0, 20, 19, BAD);
        d.program(8, 19, -1, 0, BAD);
        d.program(8, -1, 19, 0, BAD);
        d.program(9, 1, 19, 0, BAD);
        d.program(9, -1, 19, 0, BAD);
        // Numbers of heavy programs weigh nothing where no program is meant.
        d.program(0, 19, 19, 19, 20);
        d.program(1, 19, 19, 19, 21);
        d.program(3, 0, 19, 19, 22);
        d.program(4, 0, 19, 19, 23);
        d.program(5, 0, 19, 19, 24);
        d.program(6, 0, 0, 19, 25);
        d.program(8, 0, 0, 19, 26);
        d.program(9, 0, 0, 19, 27);
    }

    @Sentence(in = PROGRAM, words = "Else answers its number.")
    static void programRefusedLeavesNothing(Due due) {
        Watched d = withWeights(due);
        for (int p = 20; p < 32; p++) {
            d.program(10, 0, 0, 0, BAD);
            d.program(6, 0, p, 0, BAD);
            d.program(9, 0, 19, 0, FULL);
            d.program(6, 10, 10, 0, FULL);
            d.ends(p, 0, BAD);
            d.program(2, 0, 3, p % 4, p);
            d.program(-1, 0, 0, 0, p < 31 ? BAD : FULL);
        }
        for (int p = 20; p < 32; p++) {
            d.endsIn(p, 63, 60 + p % 4);
            d.count(4, p, 0, 0);
        }
        d.drop(32);
    }

    @Sentence(in = HOLDS, words = "Whether a condition holds in a state")
    static void holdsAtTheEnds(Due due) {
        Watched d = Watched.withConditions(due);
        for (int s = 0; s < 64; s++) {
            d.holds(ALWAYS, s, true);
            d.holds(NEVER, s, false);
            d.holds(ZERO, s, s % 4 == 0);
            d.holds(NOT_ZERO, s, s % 4 != 0);
            d.holds(THREE, s, s % 4 == 3);
        }
    }

    @Sentence(in = HOLDS, words = "false if there is none")
    static void holdsWithoutCondition(Due due) {
        Watched d = Watched.withConditions(due);
        d.condition(1, 1, 1, 5);
        d.holds(5, 0, true);
        for (int c : Watched.outside(0, 5)) {
            d.holds(c, 0, false);
            d.holds(c, 63, false);
        }
        Watched full = new Watched(due);
        for (int c = 0; c < 24; c++) {
            full.condition(1, 0, 0, c);
        }
        full.holds(23, 63, true);
        for (int c : Watched.outside(0, 23)) {
            full.holds(c, 63, false);
        }
    }

    @Sentence(in = HOLDS, words = "or s is outside 0..63.")
    static void holdsOutsideTheStates(Due due) {
        Watched d = Watched.withConditions(due);
        d.holds(ALWAYS, 0, true);
        d.holds(ALWAYS, 63, true);
        for (int s : Watched.outside(0, 63)) {
            for (int c = -1; c < 6; c++) {
                d.holds(c, s, false);
            }
        }
    }

    @Sentence(in = DROP, words = "Takes all conditions and programs away")
    static void dropTakesAllAway(Due due) {
        Watched d = Watched.withPrograms(due);
        d.drop(6);
        for (int n = 0; n < 6; n++) {
            d.holds(n, 0, false);
            d.holds(n, 63, false);
            d.ends(n, 0, BAD);
            d.count(3, n, 0, BAD);
            d.same(n, n, false);
            d.refines(n, n, false);
            d.condition(2, n, 0, BAD);
            d.program(8, n, n, 0, BAD);
            d.program(5, n, 0, 0, BAD);
        }
        d.condition(0, 1, 1, 0);
        d.program(0, 0, 0, 0, 0);
        d.holds(1, 1, false);
        d.ends(1, 0, BAD);
    }

    @Sentence(in = DROP, words = "Takes all conditions and programs away;")
    static void dropMakesRoom(Due due) {
        Watched d = new Watched(due);
        for (int round = 0; round < 3; round++) {
            for (int c = 0; c < 24; c++) {
                d.condition(1, 0, 0, c);
            }
            for (int p = 0; p < 32; p++) {
                d.program(1, 0, 0, 0, p);
            }
            d.condition(1, 0, 0, FULL);
            d.program(0, 0, 0, 0, FULL);
            d.drop(32);
        }
    }

    /** The level is neither a condition nor a program, and so is not taken away. */
    @Sentence(in = DROP, words = "Takes all conditions and programs away")
    static void dropLeavesTheLevel(Due due) {
        for (int level = 0; level < 2; level++) {
            Watched d = Watched.withPrograms(due);
            d.level(level, true);
            d.drop(6);
            d.heldLevel(level);
            d.drop(0);
            d.heldLevel(level);
        }
    }

    /** Where programs stood that fail and go on for ever, new ones of every kind do only what is theirs. */
    @Sentence(in = DROP, words = "all conditions and programs")
    static void dropLeavesNothing(Due due) {
        Watched d = Watched.withPrograms(due);
        for (int p = 6; p < 32; p++) {
            d.program(8, FAIL, FOREVER, 0, p);
        }
        d.drop(32);
        d.condition(1, 0, 0, 0);
        d.condition(2, 0, 0, 1);
        int[][] kinds = {{0, 0, 0, 0}, {2, 1, 0, 2}, {3, 2, 0, 0}, {4, 0, 0, 0}, {5, 0, 0, 0},
            {6, 0, 1, 0}, {7, 0, 2, 1}, {8, 1, 2, 0}, {9, 1, 0, 0}};
        for (int p = 0; p < 32; p++) {
            int[] k = kinds[p % 9];
            d.program(k[0], k[1], k[2], k[3], p);
            d.counts(p, 0, 64, 64, 64, 0, 0, 0);
        }
    }

    @Sentence(in = DROP, words = "answers how many programs there were.")
    static void dropAnswersThePrograms(Due due) {
        Watched d = new Watched(due);
        d.drop(0);
        d.drop(0);
        d.condition(0, 0, 0, 0);
        d.drop(0);
        for (int there = 1; there <= 9; there++) {
            d.condition(0, 0, 0, 0);
            for (int p = 0; p < there; p++) {
                d.program(0, 0, 0, 0, p);
                d.program(10, 0, 0, 0, BAD);
            }
            d.drop(there);
            d.drop(0);
        }
        for (int p = 0; p < 32; p++) {
            d.program(0, 0, 0, 0, p);
        }
        d.program(0, 0, 0, 0, FULL);
        d.drop(32);
        d.drop(0);
    }

    @Sentence(in = LEVEL, words = "How it is worked out: k outside 0..1: refused, answers false.")
    static void levelOutside(Due due) {
        Watched d = new Watched(due);
        for (int k : Watched.outside(0, 1)) {
            d.level(k, false);
            d.heldLevel(1);
        }
        d.level(0, true);
        for (int k : Watched.outside(0, 1)) {
            d.level(k, false);
            d.heldLevel(0);
        }
        d.condition(1, 0, 0, 0);
        d.program(3, 0, 0, 0, 0);
        d.program(9, 0, 0, 0, 1);
        d.level(2, false);
        d.counts(1, 0, 0, 64, 0, 0, 64, 0);
    }

    @Sentence(in = LEVEL, words = "Else true.")
    static void levelInside(Due due) {
        Watched d = new Watched(due);
        for (int k : new int[] {1, 1, 0, 0, 1, 0}) {
            d.level(k, true);
            d.heldLevel(k);
        }
        d.condition(0, 0, 0, 0);
        d.program(0, 0, 0, 0, 0);
        d.level(1, true);
        d.drop(1);
        d.level(0, true);
        d.level(1, true);
    }

    /** The same loops, made at both levels and asked at both, in an object whose level is changed, and kept over a drop. */
    @Sentence(in = LEVEL, words = "It shows in no answer.")
    static void levelShowsNowhere(Due due) {
        for (int making = 0; making < 2; making++) {
            Watched d = Watched.withPrograms(due);
            d.level(making, true);
            d.drop(6);
            d.condition(0, 0, 3, 0);
            d.condition(2, 0, 0, 1);
            d.program(3, 0, 0, 0, 0);
            d.program(2, 0, 0, 1, 1);
            d.program(5, 0, 0, 0, 2);
            for (int turn = 0; turn < 4; turn++) {
                d.program(9, 1, 0, 0, 3 + 3 * turn);
                d.program(9, 1, 1, 0, 4 + 3 * turn);
                d.program(9, 1, 2, 0, 5 + 3 * turn);
                for (int asking = 0; asking < 2; asking++) {
                    d.level(asking, true);
                    d.counts(3 + 3 * turn, 0, 16, 64, 64, 0, 48, 0);
                    d.counts(4 + 3 * turn, 0, 64, 64, 64, 0, 0, 0);
                    d.counts(5 + 3 * turn, 0, 16, 16, 16, 48, 0, 0);
                    d.endsIn(3 + 3 * turn, 60, 63);
                    d.after(4 + 3 * turn, 1, 16);
                    d.same(3, 3 + 3 * turn, true);
                    d.refines(3, 4 + 3 * turn, true);
                    d.refines(4 + 3 * turn, 3, false);
                }
                d.level(turn % 2, true);
                d.level(2, false);
            }
        }
    }
}
