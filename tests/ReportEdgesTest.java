import java.math.BigInteger;

/** Promises 28 to 33, sentence by sentence: reports, what was said, kinds that fit, chains, figures of any length. */
public final class ReportEdgesTest {
    private static final Due DUE = new Due();

    private static final int NONE = -4;
    private static final String[] KINDS = {"steady", "warm", "cool", "jealous", "vain", "faithful"};

    private static int retold(int kind, int figure, int v) {
        int steady = v - v / 4;
        int jealous = Math.max(0, steady + 2 - figure);
        return new int[] {steady, steady + 2, steady / 2, jealous, jealous + v, v}[kind];
    }

    /** Man 0 (vain with 9, who retells nothing himself), man 1 his deputy, man 2 the deputy of that one. */
    private static EngagedByDeputy through(int first, int firstFigure, int second, int secondFigure) {
        return Rows.told("m49;m" + first + firstFigure + ";m" + second + secondFigure + ";d001;d012;w00;");
    }

    /** "v .. comes through its DEPUTY, and through that one's": the deputy first, each with its own kind. */
    private static void report() {
        for (int first = 0; first < 6; first++) {
            for (int second = 0; second < 6; second++) {
                EngagedByDeputy x = through(first, 3, second, 8);
                for (int v : new int[] {0, 1, 4, 7, 40, 99}) {
                    DUE.is(v + " through " + KINDS[first] + ", " + KINDS[second], x.report(0, 0, v),
                        retold(second, 8, retold(first, 3, v)));
                }
                x.sends(0, 1, 1);
                DUE.is("50 through " + KINDS[first] + " alone", x.report(0, 0, 50), retold(first, 3, 50));
                x.sends(0, 0, 0);
                DUE.is("50 through nobody", x.report(0, 0, 50), 50);
            }
        }
        // a number may be more than 99 on its way: 99 becomes 176 with 0, and 310
        EngagedByDeputy vain = through(4, 0, 4, 0);
        DUE.is("99 through two vain ones", vain.report(0, 0, 99), 310);
        DUE.is("it is said by 99 alone", vain.said(0, 0, 310, 1), 99);
        DUE.is("just one", vain.said(0, 0, 310, 0), 1);
        EngagedByDeputy ring = Rows.told("m00;m22;d001;d010;w00;");
        DUE.is("cool, then the one itself", ring.report(0, 0, 80), 23);
        EngagedByDeputy women = Rows.told("w00;w11;w20;d101;d112;m00;");
        DUE.is("women, too", women.report(1, 0, 40), 12);
        DUE.is("through a third one nothing comes", Rows.told("m00;m50;m50;m20;d001;d012;d023;w00;").report(0, 0, 40), 40);
    }

    /** "how many v (0 .. 99) there are of which just w comes; the least; -4". */
    private static void said() {
        for (int kind = 0; kind < 6; kind++) {
            EngagedByDeputy x = through(kind, 9, 0, 0);
            x.sends(0, 1, 1);
            for (int w = 0; w <= 180; w++) {
                int many = 0;
                int least = NONE;
                for (int v = 99; v >= 0; v--) {
                    if (retold(kind, 9, v) == w) {
                        many++;
                        least = v;
                    }
                }
                DUE.is(KINDS[kind] + ": how many become " + w, x.said(0, 0, w, 0), many);
                DUE.is(KINDS[kind] + ": the least that becomes " + w, x.said(0, 0, w, 1), least);
            }
        }
        EngagedByDeputy none = Rows.told("m00;");
        DUE.is("0 is said by 0", none.said(0, 0, 0, 1), 0);
        DUE.is("99 by 99", none.said(0, 0, 99, 1), 99);
        DUE.is("100 by none", none.said(0, 0, 100, 1), NONE);
        DUE.is("none at all", none.said(0, 0, 100, 0), 0);
        DUE.is("999 by none", none.said(0, 0, 999, 0), 0);
    }

    /** "KINDS (bits) that with some FIGURE fit; how many KINDS with FIGURES fit": all numbers that can be added. */
    private static void learnt() {
        EngagedByDeputy x = new EngagedByDeputy();
        for (int added = -1; added <= 16; added++) {
            int bits = 0;
            int many = 0;
            for (int kind = 0; kind < 6; kind++) {
                for (int figure = 0; figure < 10; figure++) {
                    if (new int[] {3, 5, 1, 5, 5 + figure, 6}[kind] == added) {
                        bits |= 1 << kind;
                        many++;
                    }
                }
            }
            Rows.numbers(x, 0, 0, added, added);
            DUE.is("kinds that added " + added, x.learnt(0, 0), bits);
            DUE.is("how many added " + added, x.learnt(0, 1), many);
            Rows.numbers(x, 0, 1, added, added, 2);
            DUE.is("the last does not fit", x.learnt(0, 0), 0);
            DUE.is("none fits", x.learnt(0, 1), 0);
            Rows.numbers(x, 0, 2, 2, added);
            DUE.is("the first does not fit", x.learnt(0, 1), 0);
        }
        x.row(0, 2, 0);
        DUE.is("nothing told: all kinds", x.learnt(0, 0), 63);
        DUE.is("with all figures", x.learnt(0, 1), 60);
        x.row(0, 1, 100);
        for (int i = 0; i < 100; i++) {
            x.put(0, i, 9);
        }
        DUE.is("a hundred times 9: vain", x.learnt(0, 0), 16);
        DUE.is("with 4", x.learnt(0, 1), 1);
        x.put(0, 99, 8);
        DUE.is("not the last one", x.learnt(0, 1), 0);
    }

    /** "till there is none or one comes again; 1 it comes again (0 none)": the chain that is asked for, how many, again. */
    private static void chain() {
        Object[][] due = {{"", 0, 0}, {"d001;", 1, 0}, {"d001;d012;", 2, 0}, {"d001;d012;d023;", 3, 0},
            {"d001;d012;d023;d034;", 4, 0}, {"d001;d010;", 1, 1}, {"d001;d012;d020;", 2, 1}, {"d001;d012;d023;d030;", 3, 1},
            {"d001;d012;d023;d034;d040;", 4, 1}, {"d001;d012;d021;", 2, 1}, {"d001;d012;d023;d034;d043;", 4, 1},
            {"d001;d012;d023;d034;d041;", 4, 1}, {"d001;d012;d023;d032;", 3, 1}, {"d012;d021;", 0, 0}, {"d004;", 1, 0},
            {"d004;d043;d032;d021;d010;", 4, 1}};
        for (Object[] row : due) {
            EngagedByDeputy x = Rows.told("m00;m00;m00;m00;m00;w00;w00;w00;w00;w00;");
            Rows.text(x, 0, row[0] + "s60;");
            x.valley(0);
            DUE.is("chain of man 0 with " + row[0], x.chain(0, 0, 0), (Integer) row[1]);
            DUE.is("comes again with " + row[0], x.chain(0, 0, 1), (Integer) row[2]);
            DUE.is("women have none", x.chain(1, 0, 0), 0);
            EngagedByDeputy y = Rows.told("m00;w00;w00;w00;w00;w00;");
            Rows.text(y, 0, ((String) row[0]).replace("d0", "d1") + "s60;");
            y.valley(0);
            DUE.is("chain of woman 0 with " + row[0], y.chain(1, 0, 0), (Integer) row[1]);
            DUE.is("comes again, women, with " + row[0], y.chain(1, 0, 1), (Integer) row[2]);
        }
    }

    private static BigInteger factorial(int n) {
        BigInteger all = BigInteger.ONE;
        for (int k = 2; k <= n; k++) {
            all = all.multiply(BigInteger.valueOf(k));
        }
        return all;
    }

    private static void ways(EngagedByDeputy x, String which, int... left) {
        int together = 0;
        BigInteger number = BigInteger.ONE;
        for (int deeds : left) {
            together += deeds;
            number = number.multiply(factorial(deeds));
        }
        String digits = factorial(together).divide(number).toString();
        DUE.is("digits of ways, " + which, x.ways(-1), digits.length());
        for (int i = 0; i < digits.length(); i++) {
            DUE.is("digit " + i + " of ways, " + which, x.ways(i), digits.charAt(digits.length() - 1 - i) - '0');
        }
        for (int i : new int[] {digits.length(), digits.length() + 1, 71, 72, 73, Integer.MAX_VALUE}) {
            DUE.is("beyond, at " + i + ", " + which, x.ways(i), 0);
        }
    }

    /** "all DEEDS that COUPLES that go on still have to do .. (each COUPLE's in order)". */
    private static void ways() {
        ways(new EngagedByDeputy(), "nobody");
        ways(Rows.told("m00;w00;c00;"), "one couple", 6);
        ways(Rows.told("m00;w00;c00;y05;"), "a deed left", 1);
        ways(Rows.told("m00;w00;c00;y06;"), "wed: none");
        for (int days = 0; days < 6; days++) {
            EngagedByDeputy x = Rows.told("m00;m00;m00;m00;w00;w00;w00;w00;c00;c11;");
            if (days > 0) {
                x.days(days);
            }
            ways(x, "two couples on day " + days, 6 - days, 6 - days);
            x.couple(2, 2);
            ways(x, "a third", 6 - days, 6 - days, 6);
            x.couple(3, 3);
            ways(x, "a fourth", 6 - days, 6 - days, 6, 6);
            x.days(1);
            ways(x, "a day behind", 5 - days, 5 - days, 5, 5);
        }
        // couple 1 is lost by the wedding of couple 0, couple 2 goes on
        ways(Rows.told("m00;w00;w00;m00;w00;c00;c01;y03;c12;y03;"), "one wed, one lost", 3);
        ways(Rows.told("m00;m00;w00;w00;d001;d101;s12;c00;y01;"), "lost by a slip");
        // who could never do them does not matter
        ways(Rows.told("m00;m00;w00;w00;c11;y06;c00;d001;"), "one that waits for ever", 6);
    }

    private static void thaw(EngagedByDeputy x, int couple, int left, int n, int t) {
        BigInteger number = BigInteger.ZERO;
        for (int k = left; k <= n; k++) {
            BigInteger some = factorial(n).divide(factorial(k)).divide(factorial(n - k));
            number = number.add(some.multiply(BigInteger.valueOf(t).pow(k)).multiply(BigInteger.valueOf(10 - t).pow(n - k)));
        }
        String digits = number.toString();
        String call = "thaw in " + n + " days by " + t + ", " + left + " left";
        DUE.is(call + ": digits", x.thaw(couple, n, t, -1), digits.length());
        boolean all = true;
        for (int i = 0; i < digits.length(); i++) {
            all &= x.thaw(couple, n, t, i) == digits.charAt(digits.length() - 1 - i) - '0';
        }
        DUE.holds(call + " is " + digits, all);
        for (int i : new int[] {digits.length(), digits.length() + 1, 72, Integer.MAX_VALUE}) {
            DUE.is(call + ", beyond", x.thaw(couple, n, t, i), 0);
        }
    }

    /** "of ten to the n parts, in how many are all DEEDS a COUPLE still has to do done by then": n and t at their edges. */
    private static void thaw() {
        for (int done = 0; done < 6; done++) {
            for (int n : new int[] {0, 1, 5 - done, 6 - done, 7, 17, 59, 60}) {
                for (int t : new int[] {1, 5, 9}) {
                    EngagedByDeputy x = Rows.told("m00;w00;m00;w00;m00;w00;", "c00;y02;", "c11;");
                    if (done > 0) {
                        x.days(done);
                    }
                    if (n >= 0) {
                        thaw(x, 1, 6 - done, n, t);
                    }
                }
            }
        }
        EngagedByDeputy x = Rows.told("m00;w00;c00;y05;");
        for (int t = 1; t <= 9; t++) {
            DUE.is("one deed in one day by " + t, x.thaw(0, 1, t, 0), t);
        }
        EngagedByDeputy zero = Rows.told("m00;w00;c00;");
        DUE.is("0 is one digit", zero.thaw(0, 0, 5, -1), 1);
        DUE.is("which is 0", zero.thaw(0, 0, 5, 0), 0);
        DUE.is("five days are too few", zero.thaw(0, 5, 9, -1), 1);
        DUE.is("six will do", zero.thaw(0, 6, 9, -1), 6);
        // asked in turn: nothing is left of the one ahead
        DUE.is("60 days", zero.thaw(0, 60, 9, -1), 60);
        DUE.is("six days again", zero.thaw(0, 6, 1, -1), 1);
        DUE.is("1", zero.thaw(0, 6, 1, 0), 1);
        DUE.is("ways behind thaw", zero.ways(-1), 1);
        DUE.is("ways behind thaw: 1", zero.ways(0), 1);
    }

    public static void main(String[] args) {
        report();
        said();
        learnt();
        chain();
        ways();
        thaw();
        DUE.end();
    }
}
