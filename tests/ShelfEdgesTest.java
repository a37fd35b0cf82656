import java.util.function.Consumer;

/** Promises 1 and 36 to 45, sentence by sentence: a new object, THE IMAGE, what is told, SHELVES. */
public final class ShelfEdgesTest {
    private static final Due DUE = new Due();
    private static final int MOST = Integer.MAX_VALUE;
    private static final int LEAST = Integer.MIN_VALUE;

    private static void elements(EngagedByDeputy x, int d, long... due) {
        for (int i = 0; i < due.length; i++) {
            long got = 0;
            boolean there = true;
            try {
                got = x.element(d, i);
            } catch (IllegalStateException e) {
                there = false;
            }
            DUE.holds("element(" + d + ", " + i + ") is there", there);
            DUE.is("element(" + d + ", " + i + ")", got, due[i]);
        }
        boolean beyond = true;
        try {
            x.element(d, due.length);
        } catch (IllegalStateException e) {
            beyond = false;
        }
        DUE.holds("no element(" + d + ", " + due.length + ")", !beyond);
    }

    /** "Nobody.", "SHELVES 0 .. 7 each hold nothing (at first)", "60 at first", "0 at first". */
    private static void newObject() {
        EngagedByDeputy x = new EngagedByDeputy();
        for (int side = 0; side < 2; side++) {
            DUE.is("nobody", x.count(side), 0);
            DUE.is("no one", x.one(side, 0, 0), -1);
            DUE.is("no likes", x.likes(side, 0, 0), -1);
        }
        DUE.is("no couple", x.about(0, 0), -1);
        DUE.is("nobody for one", x.couple(0, 0), -1);
        DUE.is("slip", x.slip(60), 60);
        DUE.is("day", x.count(3), 0);
        for (int d = 0; d < 8; d++) {
            DUE.is("shelf " + d + " holds nothing", x.cost(d), -11);
            DUE.is("no row in " + d, x.put(d, 0, 0), -11);
        }
        for (int deed = 0; deed < 6; deed++) {
            DUE.is("who does deed " + deed, x.who(deed, 2), deed < 5 ? 1 : 0);
        }
        DUE.is("no image", x.restore(), -3);
        DUE.is("no deeds", new EngagedByDeputy().days(60), 0);
    }

    /** Two objects share nothing. */
    private static void objectsAreApart() {
        EngagedByDeputy x = Rows.told("m33;w44;c00;l00050;s10;a02;y03;");
        x.image();
        EngagedByDeputy y = new EngagedByDeputy();
        DUE.is("nobody there", y.count(0) + y.count(1) + y.count(2) + y.count(3), 0);
        DUE.is("no image there", y.restore(), -3);
        DUE.is("nothing on shelves there", y.cost(0), -11);
        DUE.is("the first who", y.who(0, 1), 1);
        y.keep(0, 1, 0, 0);
        y.comes(0, 0);
        y.comes(0, 1);
        DUE.is("likes at first", y.likes(0, 0, 0), 10);
        DUE.is("the other's kind is as it was", x.one(0, 0, 0), 3);
    }

    private static EngagedByDeputy imaged() {
        EngagedByDeputy x = Rows.told("m35;m10;w41;w50;d001;d110;s40;a02;c00;c11;l01133;y02;");
        x.row(0, 0, 0);
        x.keep(1, 1, 4, 4);
        x.image();
        return x;
    }

    private static void restoredAfter(String what, Consumer<EngagedByDeputy> change) {
        EngagedByDeputy x = imaged();
        String before = Sight.of(x);
        change.accept(x);
        DUE.is("restored after " + what, x.restore(), 2);
        String after = Sight.of(x);
        DUE.holds("after " + what + " all is as it was: " + before + " / " + after, before.equals(after));
    }

    /** "THE IMAGE: all that there is ..; RESTORED all is as it was then." */
    private static void allIsAsItWas() {
        restoredAfter("nothing", x -> { });
        restoredAfter("days", x -> x.days(60));
        restoredAfter("one who comes", x -> x.comes(1, 0));
        restoredAfter("a woman who comes", x -> x.comes(1, 1));
        restoredAfter("likes", x -> x.like(0, 1, 1, 99));
        restoredAfter("her likes", x -> x.like(1, 1, 1, 99));
        restoredAfter("a deputy", x -> x.sends(0, 1, 0));
        restoredAfter("no deputy", x -> x.sends(1, 1, 1));
        restoredAfter("a couple", x -> x.couple(0, 1));
        restoredAfter("who does a deed", x -> x.who(0, 0));
        restoredAfter("who does the last", x -> x.who(5, 2));
        restoredAfter("the slip", x -> x.slip(99));
        restoredAfter("all at once", x -> {
            x.comes(1, 0);
            x.comes(1, 1);
            x.couple(2, 2);
            x.like(0, 2, 2, 0);
            x.slip(0);
            x.who(3, 0);
            x.sends(0, 2, 0);
            x.days(60);
        });
        EngagedByDeputy x = imaged();
        x.comes(1, 0);
        x.like(0, 2, 0, 77);
        x.sends(0, 2, 1);
        x.restore();
        x.comes(1, 0);
        DUE.is("who comes again has likes as at first", x.likes(0, 2, 0), 10);
        DUE.is("and no deputy", x.one(0, 2, 2), -4);
    }

    /** "(and THE IMAGE)", "when THE IMAGE is RESTORED, SHELVES stay as they are". */
    private static void imageAndShelvesStay() {
        EngagedByDeputy x = imaged();
        x.keep(1, 1, 0, 7);
        Rows.numbers(x, 2, 2, 5, -6);
        x.keep(0, 0, 0, 0);
        x.restore();
        DUE.is("the one of now", x.toss(1), 7);
        elements(x, 2, 5, -6);
        DUE.is("nothing", x.cost(0), -11);
        DUE.is("the image can be restored again", x.restore(), 2);
        x.days(5);
        DUE.is("and again", x.restore(), 2);
        x.days(3);
        DUE.is("another one is taken", x.image(), 5);
        x.days(1);
        DUE.is("it is the one that there is", x.restore(), 5);
        EngagedByDeputy empty = new EngagedByDeputy();
        DUE.is("an image of nobody", empty.image(), 0);
        empty.keep(0, 1, 0, 0);
        empty.comes(0, 0);
        DUE.is("restored", empty.restore(), 0);
        DUE.is("nobody", empty.count(0), 0);
        EngagedByDeputy late = Rows.told("y60;".repeat(16) + "y39;");
        DUE.is("day 999", late.image(), 999);
        DUE.is("restored", late.restore(), 999);
    }

    /** Promise 38: couples that go on, wed and lost ones, apart and together. */
    private static void count() {
        int[][] due = {{0, 3, 0, 0}, {5, 3, 0, 0}, {6, 1, 1, 1}, {60, 1, 1, 1}};
        for (int[] row : due) {
            // couple 2's deputy is bound when couple 0 is wed, so it waits for ever
            EngagedByDeputy x = Rows.told("m00;m00;w00;w00;w00;c00;c01;c12;d010;s99;");
            if (row[0] > 0) {
                x.days(row[0]);
            }
            DUE.is("couples", x.count(2), 3);
            DUE.is("day", x.count(3), row[0]);
            for (int i = 0; i < 3; i++) {
                DUE.is("count(" + (5 + i) + ") on day " + row[0], x.count(5 + i), row[1 + i]);
            }
        }
    }

    /** "what is put in keeps its lowest bits (of longs the number itself)". */
    private static void lowestBits() {
        int[] numbers = {0, 1, -1, 127, 128, 129, 255, 256, 257, 383, 384, -127, -128, -129, -256, -257, 0x12345678, 0x12345698,
            MOST, LEAST, MOST - 127, LEAST + 128};
        EngagedByDeputy x = new EngagedByDeputy();
        for (int sort = 0; sort < 3; sort++) {
            x.row(sort, sort, 2);
            for (int v : numbers) {
                DUE.is("put " + v, x.put(sort, 1, v), 0);
                int low = v & 255;
                elements(x, sort, 0, sort == 0 ? (low > 127 ? low - 256 : low) : v);
            }
        }
    }

    /** "A ROW has .. 0 .. 100 elements, 0 at first": also where another row, or a one, was. */
    private static void zeroAtFirst() {
        for (int sort = 0; sort < 3; sort++) {
            EngagedByDeputy x = new EngagedByDeputy();
            DUE.is("a hundred", x.row(3, sort, 100), 0);
            elements(x, 3, new long[100]);
            for (int i = 0; i < 100; i++) {
                x.put(3, i, i + 1);
            }
            DUE.is("the last place", x.put(3, 99, 7), 0);
            DUE.is("behind it", x.put(3, 100, 7), -13);
            x.row(3, (sort + 1) % 3, 4);
            elements(x, 3, 0, 0, 0, 0);
            x.put(3, 2, 9);
            x.row(3, sort, 6);
            elements(x, 3, new long[6]);
            x.keep(3, 1, 0, 1);
            DUE.is("a one in place of a row", x.put(3, 0, 1), -12);
            x.row(3, sort, 3);
            elements(x, 3, 0, 0, 0);
            DUE.is("a row in place of a one", x.cost(3), -12);
            x.keep(3, 0, 0, 0);
            DUE.is("nothing in place of a row", x.put(3, 0, 1), -11);
            x.row(3, sort, 0);
            elements(x, 3);
            x.row(3, sort, 5);
            elements(x, 3, new long[5]);
        }
    }

    /** "n elements of the ROW in SHELF d from i on come to that in SHELF e from j on": each place of both ends, and onto itself. */
    private static void copies() {
        for (int sort = 0; sort < 3; sort++) {
            for (int i = 0; i <= 4; i++) {
                for (int j = 0; j <= 4; j++) {
                    for (int n = 0; n <= 4; n++) {
                        EngagedByDeputy x = new EngagedByDeputy();
                        Rows.numbers(x, 0, sort, 1, 2, 3, 4);
                        Rows.numbers(x, 7, sort, 5, 6, 7, 8);
                        boolean fits = i + n <= 4 && j + n <= 4;
                        String call = i + ", " + j + ", " + n;
                        DUE.is("copy " + call, x.copy(0, i, 7, j, n), fits ? n : -13);
                        long[] due = {5, 6, 7, 8};
                        long[] itself = {1, 2, 3, 4};
                        for (int k = 0; fits && k < n; k++) {
                            due[j + k] = i + k + 1;
                            itself[j + k] = i + k + 1;
                        }
                        elements(x, 7, due);
                        elements(x, 0, 1, 2, 3, 4);
                        DUE.is("copy onto itself " + call, x.copy(0, i, 0, j, n), fits ? n : -13);
                        elements(x, 0, itself);
                    }
                }
            }
        }
        EngagedByDeputy x = new EngagedByDeputy();
        Rows.numbers(x, 0, 0, -128, 127);
        x.row(1, 0, 100);
        DUE.is("to the very end", x.copy(0, 0, 1, 98, 2), 2);
        long[] due = new long[100];
        due[98] = -128;
        due[99] = 127;
        elements(x, 1, due);
        DUE.is("all of a hundred", x.copy(1, 0, 1, 0, 100), 100);
        DUE.is("one more", x.copy(1, 0, 1, 0, 101), -13);
    }

    /** "what is taken from a SHELF, stay there": also when it came, cost, failed; a new one does not change who came. */
    private static void whatIsTakenStays() {
        EngagedByDeputy x = new EngagedByDeputy();
        x.keep(0, 1, 4, 6);
        for (int round = 0; round < 3; round++) {
            DUE.is("comes", x.comes(0, round % 2), round / 2);
            DUE.is("cost", x.cost(0), 38);
            DUE.is("failure", x.toss(0), 238);
        }
        x.keep(0, 1, 2, 1);
        DUE.is("who came is as he was", x.one(0, 0, 0), 4);
        DUE.is("with his figure", x.one(0, 0, 1), 6);
        x.row(0, 0, 3);
        DUE.is("he stays", x.one(0, 1, 3), 12);
        Rows.numbers(x, 1, 1, -1, 0);
        x.leave(1);
        x.learnt(1, 0);
        x.judge(0, 0, 0, 1);
        elements(x, 1, -1, 0);
    }

    public static void main(String[] args) {
        newObject();
        objectsAreApart();
        allIsAsItWas();
        imageAndShelvesStay();
        count();
        lowestBits();
        zeroAtFirst();
        copies();
        whatIsTakenStays();
        DUE.end();
    }
}
