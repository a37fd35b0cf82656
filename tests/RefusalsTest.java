import java.util.function.ToIntBiFunction;
import java.util.function.ToIntFunction;

/**
 * "REFUSALS (answers; nothing changes)": every call of the face, each of its refusals on both sides of its edge, in the
 * order in which they are told, and all that can be seen as it was.
 */
public final class RefusalsTest {
    private static final Due DUE = new Due();
    private static final int LEAST = Integer.MIN_VALUE;
    private static final int MOST = Integer.MAX_VALUE;

    private static final int TEXT = 0;
    private static final int INTS = 1;
    private static final int LONGS = 2;
    private static final int ONE = 3;
    private static final int BYTES = 4;
    private static final int NO_ELEMENTS = 5;
    private static final int NOTHING = 6;

    /** Three men, two women, three couples that go on, and a shelf of each kind. */
    private static EngagedByDeputy made() {
        EngagedByDeputy x = Rows.told("m37;m42;m50;w11;w29;d001;d012;d101;c00;c11;c21;l00155;a22;s44;y01;");
        Rows.numbers(x, INTS, 1, 0, 1, -1);
        Rows.numbers(x, LONGS, 2, 1, -1, 0);
        x.keep(ONE, 1, 4, 4);
        Rows.numbers(x, BYTES, 0, 3, 4);
        x.row(NO_ELEMENTS, 1, 0);
        return x;
    }

    /** Couple 0 is wed, couple 1 is lost, couple 2 goes on. */
    private static EngagedByDeputy wedAndLost() {
        EngagedByDeputy x = Rows.told("m00;m00;w00;w00;c00;c01;y06;c11;");
        x.keep(ONE, 1, 0, 5);
        return x;
    }

    private static EngagedByDeputy dayIs(int day) {
        EngagedByDeputy x = new EngagedByDeputy();
        for (int gone = 0; gone < day; gone += 60) {
            x.days(Math.min(60, day - gone));
        }
        return x;
    }

    private static void refused(String call, ToIntFunction<EngagedByDeputy> asked, int want) {
        Sight.unchanged(DUE, call, RefusalsTest::made, asked, want);
    }

    /** -1 for a number just below and just above, and far off; another answer at the edges. */
    private static void range(String what, int low, int high, ToIntBiFunction<EngagedByDeputy, Integer> asked) {
        for (int v : new int[] {low - 1, high + 1, LEAST, MOST}) {
            refused(what + " = " + v, x -> asked.applyAsInt(x, v), -1);
        }
        for (int v : new int[] {low, high}) {
            int got = asked.applyAsInt(made(), v);
            DUE.holds(what + " = " + v + " is no -1, it answered " + got, got != -1);
        }
    }

    private static void sides(String call, ToIntBiFunction<EngagedByDeputy, Integer> asked) {
        range(call + ": side", 0, 1, asked);
    }

    private static void ones(String call, ToIntBiFunction<EngagedByDeputy, Integer> man,
            ToIntBiFunction<EngagedByDeputy, Integer> woman) {
        range(call + ": man", 0, 2, man);
        range(call + ": woman", 0, 1, woman);
    }

    private static void shelves(String call, ToIntBiFunction<EngagedByDeputy, Integer> asked) {
        range(call + ": shelf", 0, 7, asked);
    }

    private static void numbersOutOfRangeOfTheValley() {
        shelves("valley", (x, v) -> x.valley(v));
        sides("one", (x, v) -> x.one(v, 0, 0));
        ones("one", (x, v) -> x.one(0, v, 0), (x, v) -> x.one(1, v, 0));
        range("one: what", 0, 4, (x, v) -> x.one(0, 0, v));
        sides("grows", (x, v) -> x.grows(v, 0, 0));
        ones("grows", (x, v) -> x.grows(0, v, 0), (x, v) -> x.grows(1, v, 0));
        range("grows: own", 0, 1, (x, v) -> x.grows(0, 0, v));
        sides("retells", (x, v) -> x.retells(v, 0, 5));
        ones("retells", (x, v) -> x.retells(0, v, 5), (x, v) -> x.retells(1, v, 5));
        range("retells: v", 0, 99, (x, v) -> x.retells(0, 0, v));
        shelves("comes", (x, v) -> x.comes(v, 0));
        range("comes: side", 0, 1, (x, v) -> x.comes(ONE, v));
        sides("likes", (x, v) -> x.likes(v, 0, 0));
        ones("likes", (x, v) -> x.likes(0, v, 0), (x, v) -> x.likes(1, v, 0));
        ones("likes for", (x, v) -> x.likes(1, 0, v), (x, v) -> x.likes(0, 0, v));
        sides("like", (x, v) -> x.like(v, 0, 0, 5));
        ones("like", (x, v) -> x.like(0, v, 0, 5), (x, v) -> x.like(1, v, 0, 5));
        ones("like for", (x, v) -> x.like(1, 0, v, 5), (x, v) -> x.like(0, 0, v, 5));
        range("like: v", 0, 99, (x, v) -> x.like(0, 0, 0, v));
        sides("sends", (x, v) -> x.sends(v, 0, 0));
        ones("sends", (x, v) -> x.sends(0, v, 0), (x, v) -> x.sends(1, v, 0));
        ones("sends whom", (x, v) -> x.sends(0, 0, v), (x, v) -> x.sends(1, 0, v));
        ones("couple", (x, v) -> x.couple(v, 1), (x, v) -> x.couple(0, v));
        range("about: couple", 0, 2, (x, v) -> x.about(v, 0));
        range("about: what", 0, 5, (x, v) -> x.about(0, v));
        range("who: deed", 0, 5, (x, v) -> x.who(v, 0));
        range("who: w", 0, 2, (x, v) -> x.who(0, v));
        range("slip: v", 0, 99, (x, v) -> x.slip(v));
        range("days: n", 1, 60, (x, v) -> x.days(v));
    }

    private static void numbersOutOfRangeInMind() {
        range("fate: couple", 0, 2, (x, v) -> x.fate(v, 1, 0));
        range("fate: n", 0, 60, (x, v) -> x.fate(0, v, 0));
        range("fate: what", 0, 3, (x, v) -> x.fate(0, 1, v));
        sides("then", (x, v) -> x.then(v, 0, 0, 1));
        ones("then", (x, v) -> x.then(0, v, 0, 1), (x, v) -> x.then(1, v, 0, 1));
        ones("then for", (x, v) -> x.then(1, 0, v, 1), (x, v) -> x.then(0, 0, v, 1));
        range("then: n", 0, 60, (x, v) -> x.then(0, 0, 0, v));
        sides("bound", (x, v) -> x.bound(v, 0, 1));
        ones("bound", (x, v) -> x.bound(0, v, 1), (x, v) -> x.bound(1, v, 1));
        range("bound: n", 0, 60, (x, v) -> x.bound(0, 0, v));
        range("slips: n", 0, 60, (x, v) -> x.slips(v, 0));
        range("slips: what", 0, 1, (x, v) -> x.slips(1, v));
        range("orders: what", 0, 1, (x, v) -> x.orders(v));
        range("deputies: couple", 0, 2, (x, v) -> x.deputies(v, 0));
        range("deputies: what", 0, 1, (x, v) -> x.deputies(0, v));
        range("bestWho: deed", 0, 5, (x, v) -> x.bestWho(v));
        shelves("leave", (x, v) -> x.leave(v));
        range("stable: man", 0, 2, (x, v) -> x.stable(v));
        range("mostOf: man", 0, 2, (x, v) -> x.mostOf(v));
        sides("report", (x, v) -> x.report(v, 0, 5));
        ones("report", (x, v) -> x.report(0, v, 5), (x, v) -> x.report(1, v, 5));
        range("report: v", 0, 99, (x, v) -> x.report(0, 0, v));
        sides("said", (x, v) -> x.said(v, 0, 5, 0));
        ones("said", (x, v) -> x.said(0, v, 5, 0), (x, v) -> x.said(1, v, 5, 0));
        range("said: w", 0, 999, (x, v) -> x.said(0, 0, v, 0));
        range("said: what", 0, 1, (x, v) -> x.said(0, 0, 5, v));
        shelves("learnt", (x, v) -> x.learnt(v, 0));
        range("learnt: what", 0, 1, (x, v) -> x.learnt(INTS, v));
        sides("chain", (x, v) -> x.chain(v, 0, 0));
        ones("chain", (x, v) -> x.chain(0, v, 0), (x, v) -> x.chain(1, v, 0));
        range("chain: what", 0, 1, (x, v) -> x.chain(0, 0, v));
        range("thaw: couple", 0, 2, (x, v) -> x.thaw(v, 6, 5, 0));
        range("thaw: n", 0, 60, (x, v) -> x.thaw(0, v, 5, 0));
        range("thaw: t", 1, 9, (x, v) -> x.thaw(0, 6, v, 0));
        sides("judge", (x, v) -> x.judge(v, 0, 0, INTS));
        ones("judge", (x, v) -> x.judge(0, v, 0, INTS), (x, v) -> x.judge(1, v, 0, INTS));
        ones("judge for", (x, v) -> x.judge(1, 0, v, INTS), (x, v) -> x.judge(0, 0, v, INTS));
        shelves("judge", (x, v) -> x.judge(0, 0, 0, v));
        range("seeds: n", 1, 20, (x, v) -> x.seeds(v, 1, 0));
        range("seeds: what", 0, 1, (x, v) -> x.seeds(1, 1, v));
        range("count: what", 0, 7, (x, v) -> x.count(v));
        for (int i : new int[] {-2, LEAST}) {
            refused("ways(" + i + ")", x -> x.ways(i), -1);
            refused("thaw(0, 6, 5, " + i + ")", x -> x.thaw(0, 6, 5, i), -1);
        }
        refused("ways(most): beyond", x -> x.ways(MOST), 0);
        refused("thaw(0, 6, 5, most): beyond", x -> x.thaw(0, 6, 5, MOST), 0);
    }

    private static void numbersOutOfRangeOfShelves() {
        shelves("keep", (x, v) -> x.keep(v, 1, 0, 0));
        shelves("keep nothing", (x, v) -> x.keep(v, 0, 0, 0));
        range("keep: what", 0, 1, (x, v) -> x.keep(0, v, 0, 0));
        range("keep: kind", 0, 5, (x, v) -> x.keep(0, 1, v, 0));
        range("keep: figure", 0, 9, (x, v) -> x.keep(0, 1, 0, v));
        shelves("row", (x, v) -> x.row(v, 1, 1));
        range("row: sort", 0, 2, (x, v) -> x.row(0, v, 1));
        refused("row of 101", x -> x.row(INTS, 1, 101), -1);
        refused("row of most", x -> x.row(INTS, 1, MOST), -1);
        DUE.is("row of 100", made().row(INTS, 1, 100), 0);
        DUE.is("row of 0", made().row(INTS, 1, 0), 0);
        shelves("put", (x, v) -> x.put(v, 0, 1));
        shelves("copy from", (x, v) -> x.copy(v, 0, INTS, 0, 1));
        shelves("copy to", (x, v) -> x.copy(INTS, 0, v, 0, 1));
        shelves("cost", (x, v) -> x.cost(v));
        shelves("toss", (x, v) -> x.toss(v));
    }

    private static String thrownBy(int d, int i) {
        try {
            made().element(d, i);
            return "nothing";
        } catch (IllegalArgumentException e) {
            return "IllegalArgumentException";
        } catch (IllegalStateException e) {
            return "IllegalStateException";
        }
    }

    private static void element(int d, int i, String due) {
        String got = thrownBy(d, i);
        DUE.holds("element(" + d + ", " + i + ") throws " + due + ", it threw " + got, got.equals(due));
    }

    private static void elementThrows() {
        for (int d : new int[] {-1, 8, LEAST, MOST}) {
            // no such shelf is told first, whatever the place
            for (int i : new int[] {0, -1, 100}) {
                element(d, i, "IllegalArgumentException");
            }
        }
        for (int d : new int[] {ONE, NO_ELEMENTS, NOTHING, 7}) {
            element(d, 0, "IllegalStateException");
        }
        for (int i : new int[] {-1, 3, LEAST, MOST}) {
            element(INTS, i, "IllegalStateException");
            element(LONGS, i, "IllegalStateException");
            element(BYTES, i, "IllegalStateException");
        }
        for (int i : new int[] {0, 2}) {
            element(INTS, i, "nothing");
            element(LONGS, i, "nothing");
        }
        element(BYTES, 1, "nothing");
        element(BYTES, 2, "IllegalStateException");
    }

    private static void shelvesThatHoldSomethingElse() {
        for (int d : new int[] {NOTHING, 7}) {
            refused("valley of nothing", x -> x.valley(d), -11);
            refused("comes of nothing", x -> x.comes(d, 0), -11);
            refused("leave of nothing", x -> x.leave(d), -11);
            refused("learnt of nothing", x -> x.learnt(d, 0), -11);
            refused("judge of nothing", x -> x.judge(0, 0, 0, d), -11);
            refused("put in nothing", x -> x.put(d, 0, 1), -11);
            refused("copy from nothing", x -> x.copy(d, 0, INTS, 0, 1), -11);
            refused("copy to nothing", x -> x.copy(INTS, 0, d, 0, 1), -11);
            refused("copy from nothing to itself", x -> x.copy(d, 0, d, 0, 0), -11);
            refused("cost of nothing", x -> x.cost(d), -11);
            refused("toss of nothing", x -> x.toss(d), -11);
        }
        for (int d : new int[] {INTS, LONGS, ONE, NO_ELEMENTS}) {
            refused("valley of no bytes, shelf " + d, x -> x.valley(d), -12);
        }
        for (int d : new int[] {TEXT, INTS, LONGS, NO_ELEMENTS}) {
            refused("comes of a row, shelf " + d, x -> x.comes(d, 0), -12);
            refused("cost of a row, shelf " + d, x -> x.cost(d), -12);
            refused("toss of a row, shelf " + d, x -> x.toss(d), -12);
        }
        refused("leave of a one", x -> x.leave(ONE), -12);
        refused("learnt of a one", x -> x.learnt(ONE, 1), -12);
        refused("judge of a one", x -> x.judge(0, 0, 0, ONE), -12);
        refused("put in a one", x -> x.put(ONE, 0, 1), -12);
        refused("copy from a one", x -> x.copy(ONE, 0, INTS, 0, 1), -12);
        refused("copy to a one", x -> x.copy(INTS, 0, ONE, 0, 1), -12);
        refused("copy of a one to itself", x -> x.copy(ONE, 0, ONE, 0, 0), -12);
        for (int sort = 0; sort < 3; sort++) {
            // a one is no row of the sort that stood on its shelf ahead of it
            EngagedByDeputy x = new EngagedByDeputy();
            x.row(0, sort, 3);
            x.row(1, sort, 3);
            x.keep(1, 1, 0, 0);
            x.keep(2, 1, 0, 0);
            for (int d = 1; d < 3; d++) {
                DUE.is("copy from a one, sort " + sort, x.copy(d, 0, 0, 0, 1), -12);
                DUE.is("copy to a one, sort " + sort, x.copy(0, 0, d, 0, 1), -12);
            }
            x.keep(1, 0, 0, 0);
            DUE.is("copy from nothing, sort " + sort, x.copy(1, 0, 0, 0, 1), -11);
            DUE.is("copy to nothing, sort " + sort, x.copy(0, 0, 1, 0, 1), -11);
        }
        int[] rows = {BYTES, INTS, LONGS};
        for (int d : rows) {
            for (int e : rows) {
                if (d != e) {
                    refused("copy of rows of two sorts", x -> x.copy(d, 0, e, 0, 1), -12);
                }
            }
        }
        refused("a size below 0", x -> x.row(INTS, 1, -1), -14);
        refused("a size far below 0", x -> x.row(INTS, 1, LEAST), -14);
        refused("put at -1", x -> x.put(INTS, -1, 1), -13);
        refused("put behind the last", x -> x.put(INTS, 3, 1), -13);
        refused("put far behind", x -> x.put(INTS, MOST, 1), -13);
        refused("put in no elements", x -> x.put(NO_ELEMENTS, 0, 1), -13);
    }

    private static void placesThatAreNotThere() {
        int[][] places = {{0, 0, -1}, {0, 0, 4}, {-1, 0, 1}, {0, -1, 1}, {3, 0, 1}, {0, 3, 1}, {1, 0, 3}, {0, 1, 3},
            {4, 0, 0}, {0, 4, 0}, {-1, 0, 0}, {0, -1, 0}, {MOST, 0, 1}, {0, MOST, 1}, {0, 0, MOST}, {1, 1, MOST},
            {0, 0, LEAST}, {LEAST, 0, 1}, {0, LEAST, 1}, {MOST, MOST, MOST}, {4, 0, -1}};
        for (int[] p : places) {
            refused("copy(1, " + p[0] + ", 1, " + p[1] + ", " + p[2] + ")", x -> x.copy(INTS, p[0], INTS, p[1], p[2]), -13);
        }
        refused("copy to a row without elements", x -> x.copy(INTS, 0, NO_ELEMENTS, 0, 1), -13);
        refused("copy from a row without elements", x -> x.copy(NO_ELEMENTS, 0, INTS, 0, 1), -13);
        refused("copy of none changes nothing", x -> x.copy(INTS, 3, INTS, 3, 0), 0);
        refused("copy of all onto itself", x -> x.copy(INTS, 0, INTS, 0, 3), 3);
        refused("copy of none from a row without elements", x -> x.copy(NO_ELEMENTS, 0, INTS, 0, 0), 0);
        refused("leave: fewer numbers than men", x -> x.leave(BYTES), -13);
        refused("leave: no numbers", x -> x.leave(NO_ELEMENTS), -13);
        refused("leave: more numbers than men", x -> x.leave(TEXT), -13);
        // woman 1 has met man 1, so she likes him more than those who would have her
        refused("leave: as many", x -> x.leave(INTS), -4);
    }

    private static void noRoomAndNotAsItMustBe() {
        for (int side = 0; side < 2; side++) {
            int into = side;
            String letter = side == 0 ? "m00;" : "w00;";
            Sight.unchanged(DUE, "a sixth on side " + side, () -> {
                EngagedByDeputy x = Rows.told(letter.repeat(5));
                x.keep(ONE, 1, 0, 0);
                return x;
            }, x -> x.comes(ONE, into), -2);
        }
        Sight.unchanged(DUE, "a fifth couple", () -> Rows.told("m00;m00;m00;w00;w00;c00;c01;c10;c11;"),
            x -> x.couple(2, 0), -2);
        refused("a couple twice", x -> x.couple(2, 1), -3);
        Sight.unchanged(DUE, "a man who is bound", RefusalsTest::wedAndLost, x -> x.couple(0, 1), -3);
        Sight.unchanged(DUE, "a woman who is bound", RefusalsTest::wedAndLost, x -> x.couple(1, 0), -3);
        Sight.unchanged(DUE, "two who are wed", RefusalsTest::wedAndLost, x -> x.couple(0, 0), -3);
        Sight.unchanged(DUE, "days at day 999", () -> dayIs(999), x -> x.days(1), -3);
        Sight.unchanged(DUE, "60 days at day 940", () -> dayIs(940), x -> x.days(60), -3);
        DUE.is("59 days at day 940", dayIs(940).days(59), 0);
        DUE.is("60 days at day 939", dayIs(939).days(60), 0);
        Sight.unchanged(DUE, "orders of no couples", EngagedByDeputy::new, x -> x.orders(0), -3);
        Sight.unchanged(DUE, "all days of no couples", EngagedByDeputy::new, x -> x.orders(1), -3);
        for (int couple : new int[] {0, 1}) {
            Sight.unchanged(DUE, "thaw of a couple that does not go on", RefusalsTest::wedAndLost,
                x -> x.thaw(couple, 6, 5, -1), -3);
            Sight.unchanged(DUE, "deputies of a couple that does not go on", RefusalsTest::wedAndLost,
                x -> x.deputies(couple, 0), -4);
            Sight.unchanged(DUE, "the day with such deputies", RefusalsTest::wedAndLost, x -> x.deputies(couple, 1), -4);
            for (int what : new int[] {4, 5}) {
                Sight.unchanged(DUE, "doers of a couple that does not go on", RefusalsTest::wedAndLost,
                    x -> x.about(couple, what), -4);
            }
        }
        refused("restore without an image", x -> x.restore(), -3);
        for (int kind = 0; kind < 6; kind++) {
            int k = kind;
            Sight.unchanged(DUE, "no failure with figure 0, kind " + kind, () -> {
                EngagedByDeputy x = new EngagedByDeputy();
                x.keep(ONE, 1, k, 0);
                return x;
            }, x -> x.toss(ONE), -15);
        }
        for (int figure = 0; figure < 10; figure++) {
            EngagedByDeputy x = new EngagedByDeputy();
            x.keep(ONE, 1, 5, figure);
            DUE.is("no failure of a faithful one with " + figure, x.toss(ONE), -15);
        }
    }

    /** "Answers of several REFUSALS are the first one as they are told at the call." */
    private static void theFirstOfSeveral() {
        refused("comes: side ahead of nothing", x -> x.comes(NOTHING, 2), -1);
        refused("comes: side ahead of a row", x -> x.comes(INTS, -1), -1);
        Sight.unchanged(DUE, "comes: nothing ahead of no room", () -> Rows.told("m00;m00;m00;m00;m00;"),
            x -> x.comes(NOTHING, 0), -11);
        Sight.unchanged(DUE, "comes: a row ahead of no room", () -> Rows.told("m00;m00;m00;m00;m00;"),
            x -> x.comes(TEXT, 0), -12);
        EngagedByDeputy full = Rows.told("m00;m00;m00;w00;w00;c00;c01;c10;c11;");
        DUE.is("couple: no such one ahead of no room", full.couple(3, 0), -1);
        DUE.is("couple: twice ahead of no room", full.couple(1, 1), -3);
        full.days(60);
        DUE.is("couple: bound ahead of no room", full.couple(0, 1), -3);
        DUE.is("couple: no such one ahead of bound", full.couple(0, 2), -1);
        DUE.is("days: n ahead of the day", dayIs(999).days(61), -1);
        DUE.is("days: n ahead of the day", dayIs(999).days(0), -1);
        DUE.is("orders: what ahead of no couples", new EngagedByDeputy().orders(2), -1);
        DUE.is("deputies: what ahead of not going on", wedAndLost().deputies(0, 2), -1);
        DUE.is("thaw: n ahead of not going on", wedAndLost().thaw(0, 61, 1, 0), -1);
        DUE.is("thaw: t ahead of not going on", wedAndLost().thaw(0, 6, 10, 0), -1);
        DUE.is("thaw: i ahead of not going on", wedAndLost().thaw(0, 6, 1, -2), -1);
        refused("learnt: what ahead of nothing", x -> x.learnt(NOTHING, 2), -1);
        refused("learnt: what ahead of a one", x -> x.learnt(ONE, -1), -1);
        refused("judge: no such one ahead of nothing", x -> x.judge(0, 3, 0, NOTHING), -1);
        refused("judge: no such other ahead of a one", x -> x.judge(0, 0, 2, ONE), -1);
        refused("row: shelf ahead of below 0", x -> x.row(8, 0, -1), -1);
        refused("row: sort ahead of below 0", x -> x.row(INTS, 3, -1), -1);
        refused("put: nothing ahead of the place", x -> x.put(NOTHING, -1, 0), -11);
        refused("put: a one ahead of the place", x -> x.put(ONE, 100, 0), -12);
        refused("copy: shelf ahead of nothing", x -> x.copy(NOTHING, 0, 8, 0, 1), -1);
        refused("copy: shelf ahead of a one", x -> x.copy(-1, 0, ONE, 0, 1), -1);
        refused("copy: nothing ahead of a one", x -> x.copy(ONE, 0, NOTHING, 0, 1), -11);
        refused("copy: nothing ahead of a one, the other way", x -> x.copy(NOTHING, 0, ONE, 0, 1), -11);
        refused("copy: nothing ahead of places", x -> x.copy(INTS, 9, NOTHING, 0, -1), -11);
        refused("copy: two sorts ahead of places", x -> x.copy(INTS, 9, LONGS, 9, -1), -12);
        refused("copy: a one ahead of places", x -> x.copy(ONE, -1, INTS, -1, -1), -12);
    }

    /** "(the others do not matter)" */
    private static void keepNothingWhateverElse() {
        for (int odd : new int[] {-1, 6, 10, LEAST, MOST}) {
            EngagedByDeputy x = made();
            DUE.is("keep(3, 0, " + odd + ", " + odd + ")", x.keep(ONE, 0, odd, odd), 0);
            DUE.is("nothing is there", x.cost(ONE), -11);
        }
    }

    public static void main(String[] args) {
        numbersOutOfRangeOfTheValley();
        numbersOutOfRangeInMind();
        numbersOutOfRangeOfShelves();
        elementThrows();
        shelvesThatHoldSomethingElse();
        placesThatAreNotThere();
        noRoomAndNotAsItMustBe();
        theFirstOfSeveral();
        keepNothingWhateverElse();
        DUE.end();
    }
}
