/** Tests of the promises 6 to 13 at their edges, one a sentence. */
final class AskingCases {
    private static final int BAD = Watched.BAD;
    private static final int NONE = Watched.NONE;
    private static final int ZERO = Watched.ZERO;
    private static final int NOT_ZERO = Watched.NOT_ZERO;
    private static final int ALWAYS = Watched.ALWAYS;
    private static final int NEVER = Watched.NEVER;
    private static final int THREE = Watched.THREE;
    private static final int SKIP = Watched.SKIP;
    private static final int FAIL = Watched.FAIL;
    private static final int PLUS_ONE = Watched.PLUS_ONE;
    private static final int ANY = Watched.ANY;
    private static final int NOTHING = Watched.NOTHING;
    private static final int FOREVER = Watched.FOREVER;

    private static final String COUNT = "Promise 6: count";
    private static final String FIRST = "Promise 7: first";
    private static final String IS = "Promise 8: is";
    private static final String ENDS = "Promise 9: ends";
    private static final String END = "Promise 10: end";
    private static final String AFTER = "Promise 11: after";
    private static final String REFINES = "Promise 12: refines";
    private static final String SAME = "Promise 13: same";

    private AskingCases() { }

    /** Program 6 + kind is one of which all states are of the kind, asked with condition ALWAYS. */
    private static Watched withEachKind(Due due) {
        Watched d = Watched.withPrograms(due);
        int[] all = {SKIP, FOREVER, ANY, FAIL, FOREVER, NOTHING};
        for (int kind = 0; kind < 6; kind++) {
            d.program(6, SKIP, all[kind], 0, 6 + kind);
        }
        return d;
    }

    @Sentence(in = COUNT, words = "The number of states of a kind.")
    static void countFromNoneToAll(Due due) {
        Watched d = withEachKind(due);
        for (int kind = 0; kind < 6; kind++) {
            d.count(kind, 6 + kind, ALWAYS, 64);
        }
        int[] none = {FAIL, FAIL, SKIP, SKIP, SKIP, SKIP};
        for (int kind = 0; kind < 6; kind++) {
            d.count(kind, none[kind], NEVER, 0);
        }
        // One state alone, the smallest and the greatest.
        for (int value = 0; value < 4; value += 3) {
            int only = value == 0 ? 9 : 14;
            d.onlyWhereAllAre(value, only - 4);
            d.count(2, SKIP, only, 1);
            d.count(0, SKIP, only, 1);
            d.count(1, SKIP, only, 1);
        }
    }

    @Sentence(in = COUNT, words = "kind outside 0..5")
    static void countKindOutside(Due due) {
        Watched d = withEachKind(due);
        for (int kind : Watched.outside(0, 5)) {
            for (int p = 6; p < 12; p++) {
                d.count(kind, p, ALWAYS, BAD);
            }
        }
    }

    @Sentence(in = COUNT, words = "or there is no program p")
    static void countWithoutProgram(Due due) {
        Watched d = withEachKind(due);
        for (int kind = 0; kind < 6; kind++) {
            d.count(kind, 11, ALWAYS, new int[] {64, 64, 0, 0, 0, 64}[kind]);
            for (int p : Watched.outside(0, 11)) {
                d.count(kind, p, ALWAYS, BAD);
            }
        }
    }

    @Sentence(in = COUNT, words = "or, in kinds 0 to 2, no condition c: BAD.")
    static void countWithoutCondition(Due due) {
        Watched d = withEachKind(due);
        for (int kind = 0; kind < 6; kind++) {
            d.count(kind, 6 + kind, THREE, new int[] {16, 64, 64, 64, 64, 64}[kind]);
            for (int c : Watched.outside(0, 4)) {
                d.count(kind, 6 + kind, c, kind < 3 ? BAD : 64);
            }
        }
        Watched bare = new Watched(due);
        bare.program(0, 0, 0, 0, 0);
        bare.counts(0, 0, BAD, BAD, BAD, 0, 0, 0);
    }

    @Sentence(in = FIRST, words = "The smallest state of a kind")
    static void firstAtTheEnds(Due due) {
        Watched d = withEachKind(due);
        for (int kind = 0; kind < 6; kind++) {
            d.first(kind, 6 + kind, ALWAYS, 0);
        }
        d.onlyWhereAllAre(3, 5);
        d.condition(2, 9, 0, 10);
        d.program(5, 10, 0, 0, 12);
        d.program(9, 9, SKIP, 0, 13);
        d.program(4, 10, 0, 0, 14);
        // State 63 is the only one of its kind, whatever the kind is.
        d.first(0, SKIP, 9, 63);
        d.first(1, SKIP, 9, 63);
        d.first(2, SKIP, 9, 63);
        d.first(3, 12, 0, 63);
        d.first(4, 13, 0, 63);
        d.first(5, 14, 0, 63);
        d.first(0, PLUS_ONE, THREE, 2);
        d.first(2, PLUS_ONE, ZERO, 3);
    }

    @Sentence(in = FIRST, words = "BAD as for count")
    static void firstRefused(Due due) {
        Watched d = withEachKind(due);
        for (int kind : Watched.outside(0, 5)) {
            d.first(kind, SKIP, ALWAYS, BAD);
        }
        for (int kind = 0; kind < 6; kind++) {
            for (int p : Watched.outside(0, 11)) {
                d.first(kind, p, ALWAYS, BAD);
            }
            for (int c : Watched.outside(0, 4)) {
                d.first(kind, 6 + kind, c, kind < 3 ? BAD : 0);
            }
        }
    }

    @Sentence(in = FIRST, words = "NONE if there is none.")
    static void firstOfNone(Due due) {
        Watched d = Watched.withPrograms(due);
        d.first(0, FAIL, ALWAYS, NONE);
        d.first(0, FOREVER, ALWAYS, NONE);
        d.first(0, SKIP, NEVER, NONE);
        d.first(1, FAIL, ALWAYS, NONE);
        d.first(1, SKIP, NEVER, NONE);
        d.first(2, NOTHING, ALWAYS, NONE);
        d.first(2, SKIP, NEVER, NONE);
        for (int c = -1; c < 6; c++) {
            d.first(3, SKIP, c, NONE);
            d.first(4, FAIL, c, NONE);
            d.first(5, FOREVER, c, NONE);
        }
    }

    @Sentence(in = IS, words = "Whether a state is of a kind")
    static void isAtTheEnds(Due due) {
        Watched d = withEachKind(due);
        d.onlyWhereAllAre(3, 5);
        d.condition(2, 9, 0, 10);
        d.program(5, 10, 0, 0, 12);
        d.program(9, 9, SKIP, 0, 13);
        d.program(4, 10, 0, 0, 14);
        for (int s = 0; s < 64; s++) {
            d.is(0, SKIP, 9, s, s == 63);
            d.is(1, SKIP, 10, s, s != 63);
            d.is(2, SKIP, 9, s, s == 63);
            d.is(3, 12, 0, s, s == 63);
            d.is(4, 13, 0, s, s == 63);
            d.is(5, 14, 0, s, s == 63);
        }
        for (int kind = 0; kind < 6; kind++) {
            d.is(kind, 6 + kind, ALWAYS, 0, true);
            d.is(kind, 6 + kind, ALWAYS, 63, true);
        }
    }

    @Sentence(in = IS, words = "false where count answers BAD")
    static void isRefused(Due due) {
        Watched d = withEachKind(due);
        for (int kind : Watched.outside(0, 5)) {
            for (int p = 6; p < 12; p++) {
                d.is(kind, p, ALWAYS, 0, false);
            }
        }
        for (int kind = 0; kind < 6; kind++) {
            for (int p : Watched.outside(0, 11)) {
                d.is(kind, p, ALWAYS, 0, false);
            }
            for (int c : Watched.outside(0, 4)) {
                d.is(kind, 6 + kind, c, 0, kind >= 3);
            }
        }
    }

    @Sentence(in = IS, words = "or for s outside 0..63.")
    static void isOutsideTheStates(Due due) {
        Watched d = withEachKind(due);
        for (int kind = 0; kind < 6; kind++) {
            for (int s : Watched.outside(0, 63)) {
                d.is(kind, 6 + kind, ALWAYS, s, false);
            }
        }
        for (int s : Watched.outside(0, 63)) {
            d.is(6, SKIP, ALWAYS, s, false);
            d.is(3, 12, ALWAYS, s, false);
        }
    }

    /** Program 9 ends from every state in every state. */
    private static Watched withAllEnds(Due due) {
        Watched d = Watched.withPrograms(due);
        d.program(3, 1, 0, 0, 6);
        d.program(3, 2, 0, 0, 7);
        d.program(6, ANY, 6, 0, 8);
        d.program(6, 8, 7, 0, 9);
        return d;
    }

    @Sentence(in = ENDS, words = "The number of states in which a program may end from a state")
    static void endsFromNoneToAll(Due due) {
        Watched d = withAllEnds(due);
        int[] want = {1, 0, 1, 4, 0, 0, 4, 4, 16, 64};
        for (int p = 0; p < 10; p++) {
            for (int s = 0; s < 64; s += 21) {
                d.ends(p, s, want[p]);
            }
        }
        // What it may do beside plays no part, and a state that it may end in twice counts once.
        d.program(8, FAIL, FOREVER, 0, 10);
        d.program(8, 10, 9, 0, 11);
        d.ends(11, 63, 64);
        d.program(8, ANY, PLUS_ONE, 0, 12);
        d.ends(12, 63, 4);
    }

    @Sentence(in = ENDS, words = "BAD if there is none")
    static void endsWithoutProgram(Due due) {
        Watched d = withAllEnds(due);
        d.ends(9, 0, 64);
        for (int p : Watched.outside(0, 9)) {
            d.ends(p, 0, BAD);
            d.ends(p, 63, BAD);
        }
        Watched bare = new Watched(due);
        bare.ends(0, 0, BAD);
    }

    @Sentence(in = ENDS, words = "or s is outside 0..63.")
    static void endsOutsideTheStates(Due due) {
        Watched d = withAllEnds(due);
        for (int s : Watched.outside(0, 63)) {
            for (int p = -1; p < 11; p++) {
                d.ends(p, s, BAD);
            }
        }
    }

    @Sentence(in = END, words = "State number k, from 0, of these, in ascending order")
    static void endFromFirstToLast(Due due) {
        Watched d = withAllEnds(due);
        for (int k = 0; k < 64; k++) {
            d.end(9, 0, k, k);
            d.end(9, 63, k, k);
        }
        d.endsIn(7, 63, 15, 31, 47, 63);
        d.endsIn(7, 0, 0, 16, 32, 48);
        // Ascending, though the greater state is chosen first.
        d.program(2, 2, 3, 3, 10);
        d.program(8, 10, SKIP, 0, 11);
        d.endsIn(11, 0, 0, 48);
        d.program(8, SKIP, 10, 0, 12);
        d.endsIn(12, 0, 0, 48);
    }

    @Sentence(in = END, words = "BAD as for ends")
    static void endRefused(Due due) {
        Watched d = withAllEnds(due);
        for (int p : Watched.outside(0, 9)) {
            d.end(p, 0, 0, BAD);
            d.end(p, 0, -1, BAD);
            d.end(p, 63, 64, BAD);
        }
        for (int s : Watched.outside(0, 63)) {
            d.end(9, s, 0, BAD);
            d.end(9, s, -1, BAD);
            d.end(FAIL, s, 64, BAD);
        }
    }

    @Sentence(in = END, words = "NONE if there is none.")
    static void endOfNone(Due due) {
        Watched d = withAllEnds(due);
        int[] want = {1, 0, 1, 4, 0, 0, 4, 4, 16, 64};
        for (int p = 0; p < 10; p++) {
            d.end(p, 63, want[p], NONE);
            d.end(p, 63, -1, NONE);
            for (int k : Watched.outside(0, 63)) {
                d.end(p, 63, k, NONE);
                d.end(p, 0, k, NONE);
            }
        }
        d.end(9, 63, 63, 63);
        d.end(ANY, 63, 3, 63);
    }

    @Sentence(in = AFTER, words = "The number of states in which a program may end from some state where a condition holds")
    static void afterFromNoneToAll(Due due) {
        Watched d = withAllEnds(due);
        int[] always = {64, 0, 64, 64, 0, 0, 64, 64, 64, 64};
        int[] three = {16, 0, 16, 64, 0, 0, 16, 16, 64, 64};
        for (int p = 0; p < 10; p++) {
            d.after(p, ALWAYS, always[p]);
            d.after(p, THREE, three[p]);
            d.after(p, NEVER, 0);
        }
        // State 63 alone, and each state that is ended in from several counts once.
        d.onlyWhereAllAre(3, 5);
        d.after(SKIP, 9, 1);
        d.after(9, 9, 64);
        d.program(2, 0, 3, 2, 10);
        d.after(10, ALWAYS, 16);
        d.after(10, ZERO, 16);
        // That it may fail or go on for ever beside plays no part.
        d.program(8, FAIL, FOREVER, 0, 11);
        d.program(8, 11, PLUS_ONE, 0, 12);
        d.after(12, NOT_ZERO, 48);
    }

    @Sentence(in = AFTER, words = "BAD if one of them is not there.")
    static void afterRefused(Due due) {
        Watched d = withAllEnds(due);
        for (int p : Watched.outside(0, 9)) {
            d.after(p, ALWAYS, BAD);
            d.after(p, 5, BAD);
        }
        for (int c : Watched.outside(0, 4)) {
            d.after(9, c, BAD);
            d.after(FAIL, c, BAD);
            d.after(10, c, BAD);
        }
        Watched bare = new Watched(due);
        bare.after(0, 0, BAD);
        bare.condition(1, 0, 0, 0);
        bare.after(0, 0, BAD);
        bare.program(0, 0, 0, 0, 0);
        bare.after(0, 0, 64);
    }

    @Sentence(in = REFINES, words = "Whether, for every state from which p may neither fail nor go on for ever,")
    static void refinesWhereNothingIsAsked(Due due) {
        Watched d = withAllEnds(due);
        d.program(8, SKIP, FAIL, 0, 10);
        d.program(8, SKIP, FOREVER, 0, 11);
        // No state is safe for these, so that every program refines them, though they may end in few states.
        for (int p : new int[] {FAIL, FOREVER, 10, 11}) {
            for (int q = 0; q < 12; q++) {
                d.refines(p, q, true);
            }
        }
        // Only where p is safe is q looked at.
        d.program(5, THREE, 0, 0, 12);
        d.program(7, THREE, SKIP, FAIL, 13);
        d.program(7, THREE, SKIP, FOREVER, 14);
        d.program(7, THREE, SKIP, 9, 15);
        for (int p = 12; p < 15; p++) {
            for (int q = 12; q < 16; q++) {
                d.refines(p, q, true);
            }
            d.refines(p, PLUS_ONE, false);
            d.refines(15, p, false);
        }
    }

    @Sentence(in = REFINES, words = "q may neither of both")
    static void refinesWithOneStateUnsafe(Due due) {
        for (int value = 0; value < 4; value++) {
            Watched d = withAllEnds(due);
            d.onlyWhereAllAre(value, 5);
            d.program(8, SKIP, FAIL, 0, 10);
            d.program(8, SKIP, FOREVER, 0, 11);
            d.program(7, 9, 10, SKIP, 12);
            d.program(7, 9, 11, SKIP, 13);
            for (int q = 10; q < 14; q++) {
                d.refines(SKIP, q, false);
                d.refines(9, q, false);
                d.refines(q, SKIP, true);
                d.refines(q, q, true);
            }
        }
    }

    @Sentence(in = REFINES, words = "and may end only where p may")
    static void refinesWithOneStateMore(Due due) {
        for (int value = 0; value < 4; value++) {
            Watched d = withAllEnds(due);
            d.onlyWhereAllAre(value, 5);
            d.program(7, 9, ANY, SKIP, 10);
            d.refines(SKIP, 10, false);
            d.refines(10, SKIP, true);
            d.program(7, 9, NOTHING, SKIP, 11);
            d.refines(11, SKIP, false);
            d.refines(SKIP, 11, true);
        }
        Watched d = withAllEnds(due);
        // No end at all is never too many; all ends allow every safe program.
        for (int p = 0; p < 10; p++) {
            d.refines(p, p, true);
            d.refines(p, NOTHING, true);
            d.refines(9, p, p != FAIL && p != FOREVER);
            d.refines(NOTHING, p, p == NOTHING);
        }
    }

    @Sentence(in = REFINES, words = "false if one is not there.")
    static void refinesRefused(Due due) {
        Watched d = withAllEnds(due);
        for (int far : Watched.outside(0, 9)) {
            d.refines(far, NOTHING, false);
            d.refines(FAIL, far, false);
            d.refines(FOREVER, far, false);
            d.refines(far, far, false);
        }
        Watched bare = new Watched(due);
        bare.refines(0, 0, false);
        bare.program(0, 0, 0, 0, 0);
        bare.refines(0, 0, true);
        bare.drop(1);
        bare.refines(0, 0, false);
    }

    @Sentence(in = SAME, words = "Whether from every state p and q may end in the same states")
    static void sameWithOneEndMore(Due due) {
        for (int value = 0; value < 4; value++) {
            Watched d = withAllEnds(due);
            d.onlyWhereAllAre(value, 5);
            d.program(7, 9, ANY, SKIP, 10);
            d.program(7, 9, NOTHING, SKIP, 11);
            d.program(7, 9, SKIP, SKIP, 12);
            d.same(SKIP, 10, false);
            d.same(10, SKIP, false);
            d.same(SKIP, 11, false);
            d.same(11, SKIP, false);
            d.same(SKIP, 12, true);
            d.same(12, SKIP, true);
        }
        Watched d = withAllEnds(due);
        for (int p = 0; p < 10; p++) {
            for (int q = 0; q < 10; q++) {
                d.same(p, q, p == q);
            }
        }
        // The ends count even where both may fail and go on for ever.
        d.program(8, FAIL, FOREVER, 0, 10);
        d.program(8, 10, SKIP, 0, 11);
        d.program(8, 10, ANY, 0, 12);
        d.same(10, 11, false);
        d.same(11, 12, false);
    }

    @Sentence(in = SAME, words = "both or none may fail")
    static void sameWithOneStateFailing(Due due) {
        for (int value = 0; value < 4; value++) {
            Watched d = Watched.withPrograms(due);
            d.onlyWhereAllAre(value, 5);
            d.program(8, SKIP, FAIL, 0, 6);
            d.program(7, 9, 6, SKIP, 7);
            d.program(7, 9, SKIP, 6, 8);
            d.program(7, 9, 6, 6, 9);
            d.same(SKIP, 7, false);
            d.same(7, SKIP, false);
            d.same(6, 8, false);
            d.same(8, 6, false);
            d.same(SKIP, 6, false);
            d.same(6, 9, true);
        }
    }

    @Sentence(in = SAME, words = "and both or none may go on for ever")
    static void sameWithOneStateGoingOn(Due due) {
        for (int value = 0; value < 4; value++) {
            Watched d = Watched.withPrograms(due);
            d.onlyWhereAllAre(value, 5);
            d.program(8, SKIP, FOREVER, 0, 6);
            d.program(7, 9, 6, SKIP, 7);
            d.program(7, 9, SKIP, 6, 8);
            d.program(7, 9, 6, 6, 9);
            d.program(8, SKIP, FAIL, 0, 10);
            d.same(SKIP, 7, false);
            d.same(7, SKIP, false);
            d.same(6, 8, false);
            d.same(8, 6, false);
            d.same(SKIP, 6, false);
            d.same(6, 9, true);
            d.same(6, 10, false);
        }
    }

    @Sentence(in = SAME, words = "false if one is not there.")
    static void sameRefused(Due due) {
        Watched d = Watched.withPrograms(due);
        for (int far : Watched.outside(0, 5)) {
            for (int p = 0; p < 6; p++) {
                d.same(p, far, false);
                d.same(far, p, false);
            }
            d.same(far, far, false);
        }
        Watched bare = new Watched(due);
        bare.same(0, 0, false);
        bare.program(0, 0, 0, 0, 0);
        bare.same(0, 0, true);
        bare.drop(1);
        bare.same(0, 0, false);
    }
}
