/** Promises 36 to 45: the image, what is told, shelves. */
public final class PromisesShelfTest {
    private static final Due DUE = new Due();

    private static void element(EngagedByDeputy x, int d, int i, long answer) {
        try {
            DUE.is("element(" + d + ", " + i + ")", x.element(d, i), answer);
        } catch (IllegalArgumentException | IllegalStateException e) {
            DUE.holds("element(" + d + ", " + i + ") throws nothing", false);
        }
    }

    private static void elementThrows(EngagedByDeputy x, int d, int i, Class<?> due) {
        Class<?> got = null;
        try {
            x.element(d, i);
        } catch (RuntimeException e) {
            got = e.getClass();
        }
        DUE.holds("element(" + d + ", " + i + ") throws " + due.getSimpleName(), got == due);
    }

    private static void promise36And37Image() {
        EngagedByDeputy x = Rows.told("m00;m00;w00;w00;c00;l11088;d001;a22;s44;y02;");
        DUE.is("none yet", x.restore(), -3);
        DUE.is("the day of the image", x.image(), 2);
        x.days(30);
        x.slip(1);
        x.who(2, 0);
        x.sends(0, 0, 0);
        x.like(1, 1, 0, 3);
        x.couple(1, 1);
        x.keep(5, 1, 4, 4);
        x.comes(5, 0);
        DUE.is("restored", x.restore(), 2);
        int[] due = {2, 2, 1, 2, 44, 1, 0, 0};
        for (int what = 0; what < due.length; what++) {
            DUE.is("restored: count(" + what + ")", x.count(what), due[what]);
        }
        DUE.is("restored likes", x.likes(1, 1, 0), 88);
        DUE.is("restored deputy", x.one(0, 0, 2), 1);
        DUE.is("restored: nobody is bound", x.one(0, 0, 4), -4);
        DUE.is("restored deeds", x.about(0, 3), 2);
        DUE.is("restored who", x.who(2, 1), 2);
        DUE.is("shelves stay", x.cost(5), 30);
        DUE.is("comes again as a new one", x.comes(5, 0), 2);
        DUE.is("of its kind", x.one(0, 2, 0), 4);
        DUE.is("who likes 10", x.likes(0, 2, 1), 10);
        DUE.is("the image can be restored again", x.restore(), 2);
        DUE.is("restored men", x.count(0), 2);
        DUE.is("restored who again", x.who(2, 1), 2);
        x.days(7);
        DUE.is("another image", x.image(), 9);
        x.days(1);
        DUE.is("the last one is restored", x.restore(), 9);
    }

    private static void promise38Count() {
        EngagedByDeputy x = Rows.told("m00;m00;m00;m00;w00;w00;w00;c00;c01;s33;y07;c22;");
        int[] due = {4, 3, 3, 7, 33, 1, 1, 1};
        for (int what = 0; what < due.length; what++) {
            DUE.is("count(" + what + ")", x.count(what), due[what]);
        }
        DUE.is("count(8)", x.count(8), -1);
        DUE.is("count(-1)", x.count(-1), -1);
        DUE.is("count(least)", x.count(Integer.MIN_VALUE), -1);
    }

    private static void promise39Keep() {
        EngagedByDeputy x = new EngagedByDeputy();
        DUE.is("keep(7, 1, 5, 9)", x.keep(7, 1, 5, 9), 0);
        DUE.is("keep(8, 1, 0, 0)", x.keep(8, 1, 0, 0), -1);
        DUE.is("keep(-1, 0, 0, 0)", x.keep(-1, 0, 0, 0), -1);
        DUE.is("what 2", x.keep(0, 2, 0, 0), -1);
        DUE.is("what -1", x.keep(0, -1, 0, 0), -1);
        DUE.is("kind 6", x.keep(7, 1, 6, 0), -1);
        DUE.is("kind -1", x.keep(7, 1, -1, 0), -1);
        DUE.is("figure 10", x.keep(7, 1, 0, 10), -1);
        DUE.is("figure -1", x.keep(7, 1, 0, -1), -1);
        DUE.is("refusals changed nothing", x.cost(7), 14);
        DUE.is("nothing: the others do not matter", x.keep(7, 0, -9, 99), 0);
        DUE.is("nothing is there", x.cost(7), -11);
    }

    private static void promise40Row() {
        EngagedByDeputy x = new EngagedByDeputy();
        DUE.is("row(0, 0, 0)", x.row(0, 0, 0), 0);
        DUE.is("row(7, 2, 100)", x.row(7, 2, 100), 0);
        element(x, 7, 99, 0);
        x.put(7, 99, 5);
        DUE.is("101", x.row(7, 2, 101), -1);
        DUE.is("-1 elements", x.row(7, 2, -1), -14);
        DUE.is("least", x.row(7, 2, Integer.MIN_VALUE), -14);
        DUE.is("sort 3", x.row(7, 3, 1), -1);
        DUE.is("sort -1 ahead of -1 elements", x.row(7, -1, -1), -1);
        DUE.is("shelf 8 ahead of -1 elements", x.row(8, 0, -1), -1);
        DUE.is("shelf -1", x.row(-1, 0, 1), -1);
        element(x, 7, 99, 5);
        x.put(7, 0, 6);
        DUE.is("a new row", x.row(7, 2, 100), 0);
        element(x, 7, 99, 0);
        element(x, 7, 0, 0);
        DUE.is("a shorter row", x.row(7, 1, 3), 0);
        elementThrows(x, 7, 3, IllegalStateException.class);
    }

    private static void promise41And42PutAndElement() {
        EngagedByDeputy x = new EngagedByDeputy();
        for (int sort = 0; sort < 3; sort++) {
            x.row(sort, sort, 3);
        }
        DUE.is("put(0, 0, 127)", x.put(0, 0, 127), 0);
        element(x, 0, 0, 127);
        x.put(0, 1, 128);
        element(x, 0, 1, -128);
        x.put(0, 2, 0x12345680);
        element(x, 0, 2, -128);
        x.put(0, 2, 511);
        element(x, 0, 2, -1);
        x.put(1, 2, Integer.MIN_VALUE);
        element(x, 1, 2, Integer.MIN_VALUE);
        x.put(2, 2, Integer.MIN_VALUE);
        element(x, 2, 2, Integer.MIN_VALUE);
        DUE.is("place 3", x.put(0, 3, 1), -13);
        DUE.is("place -1", x.put(0, -1, 1), -13);
        DUE.is("no such shelf", x.put(8, 0, 1), -1);
        DUE.is("shelf -1", x.put(-1, 0, 1), -1);
        DUE.is("nothing", x.put(5, 0, 1), -11);
        x.keep(5, 1, 1, 1);
        DUE.is("a one", x.put(5, 0, 1), -12);
        elementThrows(x, 8, 0, IllegalArgumentException.class);
        elementThrows(x, -1, 0, IllegalArgumentException.class);
        elementThrows(x, 5, 0, IllegalStateException.class);
        elementThrows(x, 6, 0, IllegalStateException.class);
        elementThrows(x, 0, 3, IllegalStateException.class);
        elementThrows(x, 0, -1, IllegalStateException.class);
        elementThrows(x, 0, Integer.MAX_VALUE, IllegalStateException.class);
    }

    private static void promise43Copy() {
        EngagedByDeputy x = new EngagedByDeputy();
        Rows.numbers(x, 0, 1, 1, 2, 3, 4, 5);
        x.row(1, 1, 3);
        DUE.is("two", x.copy(0, 3, 1, 1, 2), 2);
        element(x, 1, 0, 0);
        element(x, 1, 1, 4);
        element(x, 1, 2, 5);
        DUE.is("onto itself, behind", x.copy(0, 0, 0, 1, 4), 4);
        int[] behind = {1, 1, 2, 3, 4};
        for (int i = 0; i < 5; i++) {
            element(x, 0, i, behind[i]);
        }
        DUE.is("onto itself, ahead", x.copy(0, 2, 0, 0, 3), 3);
        int[] ahead = {2, 3, 4, 3, 4};
        for (int i = 0; i < 5; i++) {
            element(x, 0, i, ahead[i]);
        }
        DUE.is("none", x.copy(0, 0, 1, 0, 0), 0);
        DUE.is("none at the ends", x.copy(0, 5, 1, 3, 0), 0);
        DUE.is("none beyond an end", x.copy(0, 6, 1, 0, 0), -13);
        DUE.is("n -1", x.copy(0, 0, 1, 0, -1), -13);
        DUE.is("too many for the one", x.copy(0, 0, 1, 0, 4), -13);
        DUE.is("too many of the other", x.copy(1, 2, 0, 0, 2), -13);
        DUE.is("from -1", x.copy(0, -1, 1, 0, 1), -13);
        DUE.is("to -1", x.copy(0, 0, 1, -1, 1), -13);
        DUE.is("a sum beyond an int", x.copy(0, Integer.MAX_VALUE, 1, 0, 1), -13);
        DUE.is("most elements", x.copy(0, 1, 1, 1, Integer.MAX_VALUE), -13);
        DUE.is("no such shelf", x.copy(8, 0, 1, 0, 1), -1);
        DUE.is("nor such", x.copy(0, 0, -1, 0, 1), -1);
        DUE.is("from nothing", x.copy(2, 0, 1, 0, 1), -11);
        DUE.is("to nothing", x.copy(0, 0, 2, 0, 1), -11);
        x.keep(3, 1, 0, 0);
        DUE.is("nothing ahead of a one", x.copy(3, 0, 2, 0, 1), -11);
        DUE.is("from a one", x.copy(3, 0, 1, 0, 1), -12);
        DUE.is("to a one", x.copy(0, 0, 3, 0, 1), -12);
        DUE.is("from a one to itself", x.copy(3, 0, 3, 0, 1), -12);
        x.row(4, 0, 5);
        DUE.is("of another sort", x.copy(0, 0, 4, 0, 1), -12);
        DUE.is("of another sort ahead of a place", x.copy(0, 9, 4, 0, 1), -12);
        x.row(5, 0, 0);
        DUE.is("of no elements", x.copy(5, 0, 5, 0, 0), 0);
    }

    private static void promise44And45CostAndToss() {
        EngagedByDeputy x = new EngagedByDeputy();
        int[] costs = {5, 7, 2, 10, 26, 8};
        int[] failures = {3, 3, 3, 103, 226, -15};
        for (int kind = 0; kind < 6; kind++) {
            x.keep(2, 1, kind, 3);
            DUE.is("cost of kind " + kind, x.cost(2), costs[kind]);
            DUE.is("failure of kind " + kind, x.toss(2), failures[kind]);
            x.keep(2, 1, kind, 0);
            DUE.is("no failure of kind " + kind, x.toss(2), -15);
        }
        for (int d = -1; d <= 8; d += 9) {
            DUE.is("cost(" + d + ")", x.cost(d), -1);
            DUE.is("toss(" + d + ")", x.toss(d), -1);
        }
        DUE.is("cost of nothing", x.cost(1), -11);
        DUE.is("failure of nothing", x.toss(1), -11);
        x.row(1, 2, 0);
        DUE.is("cost of a row", x.cost(1), -12);
        DUE.is("failure of a row", x.toss(1), -12);
    }

    public static void main(String[] args) {
        promise36And37Image();
        promise38Count();
        promise39Keep();
        promise40Row();
        promise41And42PutAndElement();
        promise43Copy();
        promise44And45CostAndToss();
        DUE.end();
    }
}
