/** Tests of the document's terms at their edges, one a sentence. */
final class TermsCases {
    private static final int BAD = Watched.BAD;
    private static final int FULL = Watched.FULL;
    private static final int NONE = Watched.NONE;
    private static final int ZERO = Watched.ZERO;
    private static final int NOT_ZERO = Watched.NOT_ZERO;
    private static final int ALWAYS = Watched.ALWAYS;
    private static final int NEVER = Watched.NEVER;
    private static final int THREE = Watched.THREE;
    private static final int SKIP = Watched.SKIP;
    private static final int FAIL = Watched.FAIL;
    private static final int PLUS_ONE = Watched.PLUS_ONE;
    private static final int ANY = Watched.ANY;
    private static final int NOTHING = Watched.NOTHING;
    private static final int FOREVER = Watched.FOREVER;

    private TermsCases() { }

    @Sentence(in = "What it is", words = "An object is used for at most 512 calls after it has been made")
    static void the512thCall(Due due) {
        Watched d = new Watched(due);
        for (int round = 0; round < 6; round++) {
            for (int c = 0; c < 24; c++) {
                d.condition(0, c % 3, (c + round) % 4, c);
            }
            for (int p = 0; p < 32; p++) {
                d.program(4, p % 24, 0, 0, p);
            }
            for (int p = 0; p < 16; p++) {
                d.is(5, p, 0, 0, (p + round) % 4 != 0);
            }
            d.drop(32);
        }
        d.condition(0, 2, 3, 0);
        d.program(5, 0, 0, 0, 0);
        while (d.calls() < 510) {
            d.first(0, 0, 0, 48);
        }
        d.program(9, 0, 0, 0, 1);
        d.count(4, 1, 0, 16);
        due.due("calls", d.calls(), 512);
    }

    @Sentence(in = "Terms", words = "There are 3 VARIABLES, 0 to 2, with values from 0 to 3.")
    static void variablesAndValues(Due due) {
        Watched d = new Watched(due);
        for (int x = 0; x <= 2; x++) {
            for (int value = 0; value <= 3; value++) {
                d.condition(0, x, value, 4 * x + value);
            }
        }
        for (int x : Watched.outside(0, 2)) {
            d.condition(0, x, 0, BAD);
            d.condition(1, x, 0, BAD);
            d.condition(1, 0, x, BAD);
            d.program(2, x, 0, 0, BAD);
            d.program(3, x, 0, 0, BAD);
        }
        for (int value : Watched.outside(0, 3)) {
            d.condition(0, 0, value, BAD);
            d.program(2, 0, 3, value, BAD);
        }
    }

    @Sentence(in = "Terms", words = "A STATE gives each a value; it is written as value of variable 0 + 4 * value of variable 1 "
        + "+ 16 * value of variable 2 (0 to 63).")
    static void states(Due due) {
        for (int x = 0; x < 3; x++) {
            Watched d = new Watched(due);
            for (int value = 0; value < 4; value++) {
                d.condition(0, x, value, value);
                for (int s = 0; s < 64; s++) {
                    d.holds(value, s, Watched.values(s)[x] == value);
                }
            }
        }
    }

    @Sentence(in = "Terms", words = "(0 to 63)")
    static void smallestAndGreatestState(Due due) {
        for (int value = 0; value < 4; value += 3) {
            Watched d = new Watched(due);
            d.onlyWhereAllAre(value, 0);
            d.program(0, 0, 0, 0, 0);
            d.count(2, 0, 4, 1);
            d.first(2, 0, 4, value == 0 ? 0 : 63);
            d.holds(4, 0, value == 0);
            d.holds(4, 63, value == 3);
        }
        Watched d = new Watched(due);
        for (int x = 0; x < 3; x++) {
            d.program(2, x, 3, 3, x);
        }
        d.program(6, 0, 1, 0, 3);
        d.program(6, 3, 2, 0, 4);
        d.endsIn(4, 0, 63);
        d.endsIn(4, 63, 63);
    }

    @Sentence(in = "Terms", words = "CONDITIONS, numbered from 0, at most 24, are made one a call")
    static void conditionNumbers(Due due) {
        Watched d = new Watched(due);
        for (int c = 0; c < 24; c++) {
            d.holds(c, 0, false);
            d.condition(1, 0, 0, c);
            d.holds(c, 0, true);
            d.holds(c + 1, 0, false);
        }
        d.condition(1, 0, 0, FULL);
        d.holds(24, 0, false);
    }

    @Sentence(in = "Terms", words = "0 variable x is y (0 to 3)")
    static void valueCondition(Due due) {
        for (int x = 0; x < 3; x++) {
            Watched d = new Watched(due);
            d.condition(0, x, 0, 0);
            d.condition(0, x, 3, 1);
            for (int s = 0; s < 64; s++) {
                d.holds(0, s, Watched.values(s)[x] == 0);
                d.holds(1, s, Watched.values(s)[x] == 3);
            }
            for (int y : Watched.outside(0, 3)) {
                d.condition(0, x, y, BAD);
            }
        }
    }

    @Sentence(in = "Terms", words = "1 variable x is at most variable y")
    static void atMostCondition(Due due) {
        for (int x = 0; x < 3; x++) {
            Watched d = new Watched(due);
            for (int y = 0; y < 3; y++) {
                d.condition(1, x, y, y);
                for (int s = 0; s < 64; s++) {
                    d.holds(y, s, Watched.values(s)[x] <= Watched.values(s)[y]);
                }
            }
        }
    }

    @Sentence(in = "Terms", words = "2 not x")
    static void notCondition(Due due) {
        Watched d = Watched.withConditions(due);
        d.condition(2, ALWAYS, 0, 5);
        d.condition(2, NEVER, 0, 6);
        d.condition(2, 6, 0, 7);
        for (int s = 0; s < 64; s++) {
            d.holds(NOT_ZERO, s, s % 4 != 0);
            d.holds(5, s, false);
            d.holds(6, s, true);
            d.holds(7, s, false);
        }
    }

    @Sentence(in = "Terms", words = "3 x and y")
    static void andCondition(Due due) {
        Watched d = Watched.withConditions(due);
        d.condition(3, ZERO, ZERO, 5);
        d.condition(3, ALWAYS, THREE, 6);
        d.condition(3, THREE, NEVER, 7);
        d.condition(3, ZERO, THREE, 8);
        for (int s = 0; s < 64; s++) {
            d.holds(5, s, s % 4 == 0);
            d.holds(6, s, s % 4 == 3);
            d.holds(7, s, false);
            d.holds(8, s, false);
        }
    }

    @Sentence(in = "Terms", words = "4 x or y")
    static void orCondition(Due due) {
        Watched d = Watched.withConditions(due);
        d.condition(4, ZERO, ZERO, 5);
        d.condition(4, NEVER, THREE, 6);
        d.condition(4, THREE, ALWAYS, 7);
        d.condition(4, ZERO, THREE, 8);
        for (int s = 0; s < 64; s++) {
            d.holds(5, s, s % 4 == 0);
            d.holds(6, s, s % 4 == 3);
            d.holds(7, s, true);
            d.holds(8, s, s % 4 == 0 || s % 4 == 3);
        }
    }

    @Sentence(in = "Terms", words = "(x and y in 2 to 4: earlier conditions)")
    static void earlierConditions(Due due) {
        Watched d = new Watched(due);
        for (int there = 0; there < 24; there++) {
            for (int kind = 2; kind < 5; kind++) {
                d.condition(kind, there, 0, BAD);
                d.condition(kind, -1, 0, BAD);
            }
            d.condition(3, 0, there, BAD);
            d.condition(4, 0, there, BAD);
            if (there % 4 == 0) {
                d.condition(0, 0, 0, there);
            } else {
                d.condition(1 + there % 4, there - 1, there - 1, there);
            }
        }
    }

    @Sentence(in = "Terms", words = "PROGRAMS, numbered from 0, at most 32, are made one a call, too")
    static void programNumbers(Due due) {
        Watched d = new Watched(due);
        for (int p = 0; p < 32; p++) {
            d.ends(p, 0, BAD);
            d.program(2, 0, 3, p % 4, p);
            d.end(p, 0, 0, p % 4);
            d.ends(p + 1, 0, BAD);
        }
        d.program(0, 0, 0, 0, FULL);
        d.ends(32, 0, BAD);
        for (int p = 0; p < 32; p++) {
            d.end(p, 63, 0, 60 + p % 4);
        }
    }

    @Sentence(in = "Terms", words = "y, and z in 7 and x in 6 and 8, are earlier programs where a program is meant")
    static void earlierPrograms(Due due) {
        Watched d = new Watched(due);
        d.condition(0, 0, 0, 0);
        d.condition(0, 0, 1, 1);
        d.condition(0, 0, 2, 2);
        for (int kind = 6; kind < 10; kind++) {
            d.program(kind, 0, 0, 0, BAD);
        }
        d.program(0, 0, 0, 0, 0);
        // Program 1 is not there yet, though condition 1 is.
        d.program(6, 1, 0, 0, BAD);
        d.program(6, 0, 1, 0, BAD);
        d.program(7, 1, 1, 0, BAD);
        d.program(7, 1, 0, 1, BAD);
        d.program(8, 1, 0, 0, BAD);
        d.program(8, 0, 1, 0, BAD);
        d.program(9, 1, 1, 0, BAD);
        d.program(6, 0, 0, 0, 1);
        d.program(7, 2, 1, 1, 2);
        d.program(8, 1, 2, 0, 3);
        d.program(9, 2, 2, 0, 4);
        d.program(6, 4, 3, 0, 5);
        // And condition 3 is not there, though program 3 is.
        d.program(7, 3, 0, 0, BAD);
        d.program(9, 3, 0, 0, BAD);
        d.program(4, 3, 0, 0, BAD);
        d.program(5, 3, 0, 0, BAD);
    }

    @Sentence(in = "Terms", words = "0 SKIP: ends in the same state")
    static void skip(Due due) {
        Watched d = Watched.withPrograms(due);
        for (int s = 0; s < 64; s++) {
            d.endsIn(SKIP, s, s);
        }
        d.counts(SKIP, ZERO, 16, 16, 16, 0, 0, 0);
    }

    @Sentence(in = "Terms", words = "1 FAIL: fails")
    static void fail(Due due) {
        Watched d = Watched.withPrograms(due);
        for (int s = 0; s < 64; s++) {
            d.is(3, FAIL, 0, s, true);
            d.endsIn(FAIL, s);
        }
        d.counts(FAIL, ALWAYS, 0, 0, 0, 64, 0, 0);
    }

    @Sentence(in = "Terms", words = "2 SET: variable x becomes variable y plus z, modulo 4")
    static void setWrapsAround(Due due) {
        for (int x = 0; x < 3; x++) {
            for (int y = 0; y < 3; y++) {
                Watched d = new Watched(due);
                for (int z = 0; z < 4; z++) {
                    d.program(2, x, y, z, z);
                    for (int s = 0; s < 64; s++) {
                        int[] value = Watched.values(s);
                        value[x] = (value[y] + z) % 4;
                        d.end(z, s, 0, value[0] + 4 * value[1] + 16 * value[2]);
                    }
                    d.counts(z, 0, BAD, BAD, BAD, 0, 0, 0);
                    d.endsIn(z, 63, 63 - (3 << 2 * x) + ((3 + z) % 4 << 2 * x));
                }
            }
        }
    }

    @Sentence(in = "Terms", words = "(y = 3: z alone; z from 0 to 3)")
    static void setToNumber(Due due) {
        for (int x = 0; x < 3; x++) {
            Watched d = new Watched(due);
            for (int z = 0; z < 4; z++) {
                d.program(2, x, 3, z, z);
                for (int s = 0; s < 64; s++) {
                    int[] value = Watched.values(s);
                    value[x] = z;
                    d.end(z, s, 0, value[0] + 4 * value[1] + 16 * value[2]);
                }
            }
            for (int z : Watched.outside(0, 3)) {
                d.program(2, x, 3, z, BAD);
                d.program(2, x, x, z, BAD);
                d.program(2, x, z, 0, BAD);
            }
        }
    }

    @Sentence(in = "Terms", words = "3 ANY: ends in each state that differs at most in variable x")
    static void any(Due due) {
        for (int x = 0; x < 3; x++) {
            Watched d = new Watched(due);
            d.program(3, x, 0, 0, 0);
            int step = 1 << 2 * x;
            for (int s = 0; s < 64; s++) {
                int low = s - Watched.values(s)[x] * step;
                d.endsIn(0, s, low, low + step, low + 2 * step, low + 3 * step);
            }
            d.counts(0, 0, BAD, BAD, BAD, 0, 0, 0);
        }
    }

    @Sentence(in = "Terms", words = "4 ASSUME: ends in the same state if condition x holds; else it does nothing at all")
    static void assume(Due due) {
        Watched d = Watched.withPrograms(due);
        d.program(4, THREE, 0, 0, 6);
        for (int s = 0; s < 64; s++) {
            if (s % 4 == 3) {
                d.endsIn(6, s, s);
            } else {
                d.endsIn(6, s);
            }
            d.is(5, 6, 0, s, s % 4 != 3);
        }
        d.counts(6, THREE, 64, 64, 16, 0, 0, 48);
        d.program(4, ALWAYS, 0, 0, 7);
        d.same(7, SKIP, true);
        d.counts(NOTHING, NEVER, 64, 64, 0, 0, 0, 64);
    }

    @Sentence(in = "Terms", words = "5 CHECK: ends in the same state if condition x holds; else it fails")
    static void check(Due due) {
        Watched d = Watched.withPrograms(due);
        d.program(5, THREE, 0, 0, 6);
        for (int s = 0; s < 64; s++) {
            if (s % 4 == 3) {
                d.endsIn(6, s, s);
            } else {
                d.endsIn(6, s);
            }
            d.is(3, 6, 0, s, s % 4 != 3);
        }
        d.counts(6, THREE, 16, 16, 16, 48, 0, 0);
        d.program(5, ALWAYS, 0, 0, 7);
        d.same(7, SKIP, true);
        d.program(5, NEVER, 0, 0, 8);
        d.same(8, FAIL, true);
    }

    @Sentence(in = "Terms", words = "6 program x, and in every state in which it ends program y")
    static void then(Due due) {
        Watched d = Watched.withPrograms(due);
        d.program(3, 2, 0, 0, 6);
        d.program(6, ANY, 6, 0, 7);
        d.endsIn(7, 63, 12, 13, 14, 15, 28, 29, 30, 31, 44, 45, 46, 47, 60, 61, 62, 63);
        d.program(5, NOT_ZERO, 0, 0, 8);
        d.program(6, ANY, 8, 0, 9);
        d.endsIn(9, 60, 61, 62, 63);
        d.counts(9, NOT_ZERO, 0, 0, 64, 64, 0, 0);
        // Where x ends in no state, y is not come to.
        d.program(6, NOTHING, FAIL, 0, 10);
        d.same(10, NOTHING, true);
        d.program(6, FOREVER, FAIL, 0, 11);
        d.same(11, FOREVER, true);
        d.program(6, FAIL, FOREVER, 0, 12);
        d.same(12, FAIL, true);
        d.program(6, ANY, NOTHING, 0, 13);
        d.same(13, NOTHING, true);
    }

    @Sentence(in = "Terms", words = "7 if condition x holds program y, else program z")
    static void ifElse(Due due) {
        Watched d = Watched.withPrograms(due);
        d.program(7, THREE, PLUS_ONE, FAIL, 6);
        d.endsIn(6, 63, 60);
        d.endsIn(6, 60);
        d.counts(6, ZERO, 16, 16, 16, 48, 0, 0);
        d.program(7, THREE, FOREVER, NOTHING, 7);
        d.counts(7, NEVER, 48, 64, 0, 0, 16, 48);
        d.program(7, ALWAYS, FAIL, FOREVER, 8);
        d.same(8, FAIL, true);
        d.program(7, NEVER, FAIL, FOREVER, 9);
        d.same(9, FOREVER, true);
        d.program(7, ZERO, ANY, ANY, 10);
        d.same(10, ANY, true);
    }

    @Sentence(in = "Terms", words = "8 CHOOSE: what program x does, and what program y does")
    static void choose(Due due) {
        Watched d = Watched.withPrograms(due);
        d.program(8, SKIP, PLUS_ONE, 0, 6);
        d.endsIn(6, 63, 60, 63);
        d.endsIn(6, 0, 0, 1);
        d.program(8, FAIL, FOREVER, 0, 7);
        d.counts(7, ALWAYS, 0, 0, 0, 64, 64, 0);
        d.program(8, 7, SKIP, 0, 8);
        d.counts(8, ALWAYS, 0, 0, 64, 64, 64, 0);
        d.program(8, FOREVER, FAIL, 0, 9);
        d.same(9, 7, true);
        // A program that does nothing adds nothing; one chosen with itself is itself.
        for (int p = SKIP; p <= FOREVER; p++) {
            d.program(8, p, NOTHING, 0, 10 + 2 * p);
            d.same(10 + 2 * p, p, true);
            d.program(8, p, p, 0, 11 + 2 * p);
            d.same(11 + 2 * p, p, true);
        }
    }

    @Sentence(in = "Terms", words = "9 WHILE condition x holds program y: if it does not hold it ends in the same state")
    static void whileNoRound(Due due) {
        for (int level = 0; level < 2; level++) {
            Watched d = Watched.withPrograms(due);
            d.level(level, true);
            for (int body = SKIP; body <= FOREVER; body++) {
                d.program(9, NEVER, body, 0, 6 + body);
                d.same(6 + body, SKIP, true);
            }
            d.program(9, THREE, FAIL, 0, 12);
            d.endsIn(12, 62, 62);
            d.endsIn(12, 63);
            d.counts(12, THREE, 0, 0, 0, 16, 0, 0);
            d.counts(12, NOT_ZERO, 32, 32, 32, 16, 0, 0);
        }
    }

    @Sentence(in = "Terms", words = "if it holds it does program y, and goes on from every state in which that ends in the same way")
    static void whileRounds(Due due) {
        for (int level = 0; level < 2; level++) {
            Watched d = Watched.withPrograms(due);
            d.level(level, true);
            d.program(9, NOT_ZERO, PLUS_ONE, 0, 6);
            d.endsIn(6, 61, 60);
            d.endsIn(6, 60, 60);
            d.counts(6, ZERO, 64, 64, 64, 0, 0, 0);
            // One round of ANY leaves the loop in three ways and stays in it in one.
            d.program(9, ZERO, ANY, 0, 7);
            d.endsIn(7, 60, 61, 62, 63);
            d.endsIn(7, 63, 63);
            d.counts(7, NOT_ZERO, 48, 64, 64, 0, 16, 0);
            // A body that fails, does nothing or fails later leaves nothing to go on from.
            d.program(9, ALWAYS, FAIL, 0, 8);
            d.same(8, FAIL, true);
            d.program(9, ALWAYS, NOTHING, 0, 9);
            d.same(9, NOTHING, true);
            d.program(7, THREE, FAIL, PLUS_ONE, 10);
            d.program(9, NOT_ZERO, 10, 0, 11);
            d.counts(11, ZERO, 16, 16, 16, 48, 0, 0);
        }
    }

    /** Conditions 4: state 0; 5: not that; 6: always. Program 7 goes from each state to the next, and from 63 to 0. */
    private static Watched withNextState(Due due, int level) {
        Watched d = new Watched(due);
        d.level(level, true);
        d.onlyWhereAllAre(0, 0);
        d.condition(2, 4, 0, 5);
        d.condition(4, 4, 5, 6);
        for (int x = 0; x < 3; x++) {
            d.program(2, x, x, 1, x);
        }
        d.program(0, 0, 0, 0, 3);
        d.program(7, 3, 2, 3, 4);
        d.program(7, 0, 1, 3, 5);
        d.program(6, 0, 5, 0, 6);
        d.program(6, 6, 4, 0, 7);
        return d;
    }

    @Sentence(in = "Terms", words = "From a state a program may END in some states, may FAIL, and may GO ON FOR EVER")
    static void allAtOnceOrNothing(Due due) {
        Watched d = Watched.withPrograms(due);
        d.program(8, FAIL, FOREVER, 0, 6);
        d.program(8, 6, ANY, 0, 7);
        for (int s = 0; s < 64; s += 21) {
            d.ends(7, s, 4);
            d.is(3, 7, 0, s, true);
            d.is(4, 7, 0, s, true);
            d.ends(NOTHING, s, 0);
            d.is(3, NOTHING, 0, s, false);
            d.is(4, NOTHING, 0, s, false);
        }
        // Failing and going on for ever hide nothing from what comes after an end.
        d.program(6, 7, 6, 0, 8);
        d.counts(8, ALWAYS, 0, 0, 0, 64, 64, 0);
        d.program(6, 7, NOTHING, 0, 9);
        d.counts(9, ALWAYS, 0, 0, 0, 64, 64, 0);
    }

    @Sentence(in = "Terms", words = "if program y of some WHILE is begun without end, each time in a state in which it can have ended "
        + "the time before,")
    static void begunWithoutEnd(Due due) {
        for (int level = 0; level < 2; level++) {
            // The greatest number of rounds that have an end: 63, from state 1.
            Watched d = withNextState(due, level);
            d.program(9, 5, 7, 0, 8);
            d.counts(8, 4, 64, 64, 64, 0, 0, 0);
            d.endsIn(8, 1, 0);
            d.endsIn(8, 0, 0);
            // The longest way round: 64 states.
            d.program(9, 6, 7, 0, 9);
            d.counts(9, 4, 0, 64, 0, 0, 64, 0);
            // 64 rounds are begun, but in the last the body does not end, or fails.
            d.program(4, 5, 0, 0, 10);
            d.program(6, 10, 7, 0, 11);
            d.program(9, 6, 11, 0, 12);
            d.counts(12, 4, 64, 64, 0, 0, 0, 64);
            d.program(5, 5, 0, 0, 13);
            d.program(6, 13, 7, 0, 14);
            d.program(9, 6, 14, 0, 15);
            d.counts(15, 4, 0, 0, 0, 64, 0, 0);
            // As many rounds, but through state 63 and state 0.
            d.onlyWhereAllAre(1, 7);
            d.condition(2, 11, 0, 12);
            d.program(9, 12, 7, 0, 16);
            d.counts(16, 11, 64, 64, 64, 0, 0, 0);
            for (int s = 0; s < 64; s++) {
                d.endsIn(16, s, 21);
            }
            shortWaysRound(due, level);
        }
    }

    private static void shortWaysRound(Due due, int level) {
        Watched d = Watched.withPrograms(due);
        d.level(level, true);
        // The shortest way round: one state, even one that the loop can also leave.
        d.program(9, THREE, SKIP, 0, 6);
        d.counts(6, THREE, 0, 16, 0, 0, 16, 0);
        d.program(8, SKIP, PLUS_ONE, 0, 7);
        d.program(9, NOT_ZERO, 7, 0, 8);
        d.counts(8, ZERO, 16, 64, 64, 0, 48, 0);
        d.endsIn(8, 61, 60);
        // Two states: plus 2 from 1 to 3 and back; from 2 it ends.
        d.program(2, 0, 0, 2, 9);
        d.program(9, NOT_ZERO, 9, 0, 10);
        d.counts(10, ZERO, 32, 64, 32, 0, 32, 0);
        d.endsIn(10, 62, 60);
        d.endsIn(10, 61);
        // A way round that is come to after some rounds, and not from everywhere: 1 to 2 to 3, where it stays.
        d.program(7, THREE, SKIP, PLUS_ONE, 11);
        d.program(9, NOT_ZERO, 11, 0, 12);
        d.counts(12, ZERO, 16, 64, 16, 0, 48, 0);
        // Where the body can lead but the condition does not hold, it is not begun again.
        d.program(2, 0, 3, 0, 13);
        d.program(9, NOT_ZERO, 13, 0, 14);
        d.counts(14, ZERO, 64, 64, 64, 0, 0, 0);
        // Going round within the body is no going round of the loop if the inner loop ends.
        d.program(9, ALWAYS, 14, 0, 15);
        d.counts(15, ZERO, 0, 64, 0, 0, 64, 0);
        d.program(9, NOT_ZERO, 14, 0, 16);
        d.same(16, 14, true);
    }

    @Sentence(in = "Terms", words = "or if a part that can be come to goes on for ever")
    static void partsThatGoOn(Due due) {
        for (int level = 0; level < 2; level++) {
            Watched d = Watched.withPrograms(due);
            d.level(level, true);
            d.program(6, SKIP, FOREVER, 0, 6);
            d.same(6, FOREVER, true);
            d.program(6, FOREVER, SKIP, 0, 7);
            d.same(7, FOREVER, true);
            d.program(6, FAIL, FOREVER, 0, 8);
            d.count(4, 8, 0, 0);
            d.program(6, NOTHING, FOREVER, 0, 9);
            d.count(4, 9, 0, 0);
            d.program(7, THREE, FOREVER, SKIP, 10);
            d.counts(10, ALWAYS, 48, 64, 48, 0, 16, 0);
            d.program(7, THREE, SKIP, FOREVER, 11);
            d.counts(11, ALWAYS, 16, 64, 16, 0, 48, 0);
            d.program(8, NOTHING, FOREVER, 0, 12);
            d.same(12, FOREVER, true);
            d.program(9, NEVER, FOREVER, 0, 13);
            d.same(13, SKIP, true);
            d.program(9, THREE, FOREVER, 0, 14);
            d.counts(14, ALWAYS, 48, 64, 48, 0, 16, 0);
            // Come to in a later round, from 1 and 2; the loop itself goes round without end nowhere.
            d.program(7, THREE, FOREVER, PLUS_ONE, 15);
            d.program(9, NOT_ZERO, 15, 0, 16);
            d.counts(16, ZERO, 16, 64, 16, 0, 48, 0);
            // Not come to, since ANY is never made to end in 3.
            d.program(4, ZERO, 0, 0, 17);
            d.program(6, ANY, 17, 0, 18);
            d.program(6, 18, 14, 0, 19);
            d.counts(19, ZERO, 64, 64, 64, 0, 0, 0);
        }
    }

    @Sentence(in = "Terms", words = "what it may do depends only on these rules.")
    static void onlyTheseRules(Due due) {
        for (int turn = 0; turn < 4; turn++) {
            Watched d = new Watched(due);
            if (turn == 1) {
                d.level(0, true);
            }
            int before = turn == 2 ? 5 : 0;
            for (int p = 0; p < before; p++) {
                d.condition(0, 1, 1, p);
                d.program(1, 0, 0, 0, p);
            }
            if (turn == 3) {
                d.program(1, 0, 0, 0, 0);
                d.program(10, 0, 0, 0, BAD);
                d.drop(1);
            }
            d.condition(0, 0, 0, before);
            d.program(3, 0, 0, 0, before);
            d.program(9, before, before, 0, before + 1);
            d.counts(before + 1, before, 0, 0, 0, 0, 16, 0);
            d.endsIn(before + 1, 60, 61, 62, 63);
            d.counts(before + 1, before, 0, 0, 0, 0, 16, 0);
        }
    }

    @Sentence(in = "Terms", words = "WEIGHT: 1 plus the weights of the programs that it is made of, at most 20.")
    static void weight(Due due) {
        Watched d = new Watched(due);
        d.condition(0, 0, 0, 0);
        for (int kind = 0; kind < 6; kind++) {
            d.program(kind, 0, 0, 0, kind);
        }
        // Each of the kinds 0 to 5 weighs 1, so that one of them fits beside 18 and none beside 19.
        d.program(8, 0, 1, 0, 6);
        d.program(8, 6, 6, 0, 7);
        d.program(8, 7, 7, 0, 8);
        d.program(9, 0, 8, 0, 9);
        d.program(9, 0, 9, 0, 10);
        d.program(9, 0, 10, 0, 11);
        d.program(9, 0, 11, 0, 12);
        for (int p = 0; p < 6; p++) {
            d.program(6, 11, p, 0, 13 + p);
        }
        for (int p = 0; p < 6; p++) {
            d.program(6, 12, p, 0, FULL);
            d.program(6, 13 + p, p, 0, FULL);
        }
        d.program(9, 0, 12, 0, 19);
        d.program(9, 0, 19, 0, FULL);
        d.program(9, 0, 13, 0, FULL);
    }

    @Sentence(in = "Terms", words = "1 plus the weights of the programs that it is made of")
    static void weightCountsEachPart(Due due) {
        Watched d = new Watched(due);
        d.condition(0, 0, 0, 0);
        d.program(0, 0, 0, 0, 0);
        for (int p = 1; p < 20; p++) {
            d.program(9, 0, p - 1, 0, p);
        }
        // Program p weighs p + 1: two of them fit if their numbers are together at most 17, even if they are one and the same.
        for (int kind = 6; kind < 9; kind++) {
            int made = 20 + 3 * (kind - 6);
            for (int part = 0; part < 3; part++) {
                int x = kind == 7 ? 0 : 8 * part;
                int y = kind == 7 ? 8 * part : 17 - 8 * part;
                int z = kind == 7 ? 17 - 8 * part : 0;
                d.program(kind, x, y, z, made + part);
                d.program(kind, kind == 7 ? 0 : x + 1, kind == 7 ? y + 1 : y, z, FULL);
                d.program(kind, x, kind == 7 ? y : y + 1, kind == 7 ? z + 1 : z, FULL);
            }
            d.program(kind, kind == 7 ? 0 : 9, 9, kind == 7 ? 9 : 0, FULL);
        }
        d.program(9, 0, 19, 0, FULL);
        d.program(9, 0, 28, 0, FULL);
        d.program(9, 0, 18, 0, 29);
    }

    @Sentence(in = "Terms", words = "The KINDS of states, for a program p and a condition c: 0 those from which p may neither fail "
        + "nor go on for ever, and may end only where c holds")
    static void kind0(Due due) {
        Watched d = Watched.withPrograms(due);
        int[] always = {64, 0, 64, 64, 64, 0};
        int[] never = {0, 0, 0, 0, 64, 0};
        int[] three = {16, 0, 16, 0, 64, 0};
        for (int p = SKIP; p <= FOREVER; p++) {
            d.count(0, p, ALWAYS, always[p]);
            d.count(0, p, NEVER, never[p]);
            d.count(0, p, THREE, three[p]);
        }
        d.first(0, PLUS_ONE, THREE, 2);
        d.program(8, SKIP, FAIL, 0, 6);
        d.count(0, 6, ALWAYS, 0);
        d.program(8, SKIP, FOREVER, 0, 7);
        d.count(0, 7, ALWAYS, 0);
    }

    @Sentence(in = "Terms", words = "1 those from which it may not fail, and may end only where c holds")
    static void kind1(Due due) {
        Watched d = Watched.withPrograms(due);
        int[] always = {64, 0, 64, 64, 64, 64};
        int[] never = {0, 0, 0, 0, 64, 64};
        int[] three = {16, 0, 16, 0, 64, 64};
        for (int p = SKIP; p <= FOREVER; p++) {
            d.count(1, p, ALWAYS, always[p]);
            d.count(1, p, NEVER, never[p]);
            d.count(1, p, THREE, three[p]);
        }
        d.first(1, PLUS_ONE, THREE, 2);
        d.program(8, SKIP, FAIL, 0, 6);
        d.count(1, 6, ALWAYS, 0);
        d.program(8, SKIP, FOREVER, 0, 7);
        d.count(1, 7, THREE, 16);
    }

    @Sentence(in = "Terms", words = "2 those from which it may end where c holds")
    static void kind2(Due due) {
        Watched d = Watched.withPrograms(due);
        int[] always = {64, 0, 64, 64, 0, 0};
        int[] three = {16, 0, 16, 64, 0, 0};
        for (int p = SKIP; p <= FOREVER; p++) {
            d.count(2, p, ALWAYS, always[p]);
            d.count(2, p, NEVER, 0);
            d.count(2, p, THREE, three[p]);
        }
        d.first(2, PLUS_ONE, THREE, 2);
        d.program(8, FAIL, FOREVER, 0, 6);
        d.program(8, SKIP, 6, 0, 7);
        d.count(2, 7, THREE, 16);
    }

    @Sentence(in = "Terms", words = "3 those from which it may fail")
    static void kind3(Due due) {
        Watched d = Watched.withPrograms(due);
        for (int p = SKIP; p <= FOREVER; p++) {
            d.count(3, p, 0, p == FAIL ? 64 : 0);
            d.program(8, p, FAIL, 0, 6 + p);
            d.count(3, 6 + p, 0, 64);
        }
        d.program(5, NOT_ZERO, 0, 0, 12);
        d.count(3, 12, 0, 16);
        d.first(3, 12, 0, 0);
    }

    @Sentence(in = "Terms", words = "4 those from which it may go on for ever")
    static void kind4(Due due) {
        Watched d = Watched.withPrograms(due);
        for (int p = SKIP; p <= FOREVER; p++) {
            d.count(4, p, 0, p == FOREVER ? 64 : 0);
            d.program(8, p, FOREVER, 0, 6 + p);
            d.count(4, 6 + p, 0, 64);
        }
        d.program(9, THREE, SKIP, 0, 12);
        d.count(4, 12, 0, 16);
        d.first(4, 12, 0, 3);
    }

    @Sentence(in = "Terms", words = "5 those from which it may do nothing of all this")
    static void kind5(Due due) {
        Watched d = Watched.withPrograms(due);
        for (int p = SKIP; p <= FOREVER; p++) {
            d.count(5, p, 0, p == NOTHING ? 64 : 0);
            d.program(8, p, NOTHING, 0, 6 + p);
            d.count(5, 6 + p, 0, p == NOTHING ? 64 : 0);
        }
        d.program(4, THREE, 0, 0, 12);
        d.count(5, 12, 0, 48);
        d.first(5, 12, 0, 0);
        d.program(4, NOT_ZERO, 0, 0, 13);
        d.program(6, 12, 13, 0, 14);
        d.program(6, 14, NOTHING, 0, 15);
        d.count(5, 15, 0, 64);
        d.first(5, SKIP, 0, NONE);
    }
}
