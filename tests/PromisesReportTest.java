/** Promises 28 to 33: reports, chains, figures of any length. */
public final class PromisesReportTest {
    private static final Due DUE = new Due();

    private static void promise28Report() {
        // a steady man, whose deputy is vain with 2, whose deputy is cool
        EngagedByDeputy x = Rows.told("m00;m42;m20;m11;d001;d012;d023;w00;");
        // vain: 40 less 10 and 2 less 2 and 40: 70; cool: 70 less 17 is 53, half 26
        DUE.is("through two", x.report(0, 0, 40), 26);
        // cool: 30 / 2; warm: 15 less 3 and 2
        DUE.is("the one's own kind does not matter", x.report(0, 1, 40), 14);
        DUE.is("through one", x.report(0, 2, 40), 32);
        DUE.is("through none", x.report(0, 3, 40), 40);
        DUE.is("a woman without deputies", x.report(1, 0, 99), 99);
        x.sends(0, 1, 0);
        DUE.is("its deputy's deputy may be itself", x.report(0, 0, 40), 53);
        DUE.is("0 is told, too", x.report(0, 0, 0), 0);
        DUE.is("99 is told, too", x.report(0, 3, 99), 99);
        DUE.is("v -1", x.report(0, 0, -1), -1);
        DUE.is("v 100", x.report(0, 0, 100), -1);
        DUE.is("no such one", x.report(1, 1, 0), -1);
        DUE.is("no such side", x.report(2, 0, 0), -1);
    }

    private static void promise29Said() {
        EngagedByDeputy x = Rows.told("m00;m39;m49;d001;w00;");
        // jealous with 9 makes 0 of all v that less a fourth are 7 at most: 0 .. 9
        DUE.is("how many become 0", x.said(0, 0, 0, 0), 10);
        DUE.is("the least", x.said(0, 0, 0, 1), 0);
        // 8 is made of v less a fourth 15: 19 alone, as 20 less 5 is 15, too
        DUE.is("19 and 20 become 8", x.said(0, 0, 8, 0), 2);
        DUE.is("the least of them", x.said(0, 0, 8, 1), 19);
        DUE.is("none becomes 99", x.said(0, 0, 99, 0), 0);
        DUE.is("no least", x.said(0, 0, 99, 1), -4);
        DUE.is("without deputies each is one", x.said(1, 0, 99, 0), 1);
        DUE.is("itself", x.said(1, 0, 99, 1), 99);
        x.sends(0, 0, 2);
        x.sends(0, 2, 0);
        // vain with 9 makes 75 and 2 less 9 and 99 of 99: 167, steady 126 of that
        DUE.is("more than 99 may come", x.said(0, 0, 126, 1), 99);
        DUE.is("w 999", x.said(0, 0, 999, 0), 0);
        DUE.is("w 1000", x.said(0, 0, 1000, 0), -1);
        DUE.is("w -1", x.said(0, 0, -1, 0), -1);
        DUE.is("what 2", x.said(0, 0, 0, 2), -1);
        DUE.is("what -1", x.said(0, 0, 0, -1), -1);
        DUE.is("no such one", x.said(0, 3, 0, 0), -1);
    }

    private static void learnt(EngagedByDeputy x, int bits, int many, int... added) {
        for (int sort = 0; sort < 3; sort++) {
            Rows.numbers(x, 2, sort, added);
            DUE.is("kinds that fit, sort " + sort, x.learnt(2, 0), bits);
            DUE.is("how many fit, sort " + sort, x.learnt(2, 1), many);
        }
    }

    private static void promise30Learnt() {
        EngagedByDeputy x = new EngagedByDeputy();
        learnt(x, 63, 60);
        learnt(x, 1, 10, 3);
        learnt(x, 4, 10, 1, 1);
        // warm and jealous with any figure, vain with 0
        learnt(x, 2 + 8 + 16, 21, 5, 5, 5);
        // faithful with any figure, vain with 1
        learnt(x, 16 + 32, 11, 6);
        learnt(x, 16, 1, 14);
        learnt(x, 0, 0, 15);
        learnt(x, 0, 0, 0);
        learnt(x, 0, 0, 5, 6);
        learnt(x, 0, 0, -1);
        DUE.is("what 2", x.learnt(2, 2), -1);
        DUE.is("what -1", x.learnt(2, -1), -1);
        DUE.is("no such shelf", x.learnt(8, 0), -1);
        DUE.is("nothing", x.learnt(3, 0), -11);
        x.keep(3, 1, 0, 0);
        DUE.is("a one", x.learnt(3, 0), -12);
    }

    private static void promise31Chain() {
        EngagedByDeputy x = Rows.told("m00;m00;m00;m00;m00;d001;d012;d023;w00;");
        DUE.is("three deputies", x.chain(0, 0, 0), 3);
        DUE.is("none comes again", x.chain(0, 0, 1), 0);
        DUE.is("no deputy", x.chain(0, 3, 0), 0);
        DUE.is("nor again", x.chain(0, 3, 1), 0);
        x.sends(0, 3, 1);
        DUE.is("1, 2, 3, then 1 again", x.chain(0, 0, 0), 3);
        DUE.is("it comes again", x.chain(0, 0, 1), 1);
        // 2 and 3 stand behind it, then it comes again itself
        DUE.is("in the ring", x.chain(0, 1, 0), 2);
        DUE.is("it comes again there, too", x.chain(0, 1, 1), 1);
        x.sends(0, 3, 4);
        x.sends(0, 4, 0);
        DUE.is("a ring of all five: four behind each", x.chain(0, 0, 0), 4);
        DUE.is("in that ring", x.chain(0, 2, 1), 1);
        x.sends(0, 4, 2);
        DUE.is("four, then 2 again, at the end of the longest tail", x.chain(0, 0, 0), 4);
        DUE.is("2 comes again", x.chain(0, 0, 1), 1);
        x.sends(0, 1, 0);
        DUE.is("a ring of two: one deputy", x.chain(0, 0, 0), 1);
        DUE.is("the one asked for comes again", x.chain(0, 0, 1), 1);
        x.sends(0, 1, 1);
        DUE.is("out of the ring: one deputy, too", x.chain(0, 0, 0), 1);
        DUE.is("but none comes again", x.chain(0, 0, 1), 0);
        DUE.is("a woman", x.chain(1, 0, 0), 0);
        DUE.is("what 2", x.chain(0, 0, 2), -1);
        DUE.is("what -1", x.chain(0, 0, -1), -1);
        DUE.is("no such one", x.chain(1, 1, 0), -1);
    }

    private static void digits(EngagedByDeputy x, String number) {
        DUE.is("digits of " + number, x.ways(-1), number.length());
        for (int i = 0; i < number.length(); i++) {
            DUE.is("ways(" + i + ") of " + number, x.ways(i), number.charAt(number.length() - 1 - i) - '0');
        }
        DUE.is("beyond", x.ways(number.length()), 0);
        DUE.is("far beyond", x.ways(Integer.MAX_VALUE), 0);
    }

    private static void promise32Ways() {
        digits(new EngagedByDeputy(), "1");
        EngagedByDeputy x = Rows.told("m00;m00;m00;m00;w00;w00;w00;w00;c00;");
        digits(x, "1");
        x.couple(1, 1);
        digits(x, "924");
        x.couple(2, 2);
        digits(x, "17153136");
        x.couple(3, 3);
        digits(x, "2308743493056");
        x.days(5);
        digits(x, "24");
        x.couple(0, 0);
        x.days(1);
        digits(x, "1");
        DUE.is("ways(-2)", x.ways(-2), -1);
        EngagedByDeputy y = Rows.told("m00;w00;w00;c00;y04;c01;");
        // two deeds left and six: 8 over 2
        digits(y, "28");
        y.days(2);
        digits(y, "1");
    }

    private static void digits(EngagedByDeputy x, int n, int t, String number) {
        String call = "thaw(0, " + n + ", " + t + ", ";
        DUE.is(call + "-1)", x.thaw(0, n, t, -1), number.length());
        for (int i = 0; i < number.length(); i++) {
            DUE.is(call + i + ")", x.thaw(0, n, t, i), number.charAt(number.length() - 1 - i) - '0');
        }
        DUE.is("beyond", x.thaw(0, n, t, number.length()), 0);
        DUE.is("far beyond", x.thaw(0, n, t, Integer.MAX_VALUE), 0);
    }

    private static void promise33Thaw() {
        EngagedByDeputy x = Rows.told("m00;w00;c00;");
        digits(x, 0, 5, "0");
        digits(x, 5, 9, "0");
        digits(x, 6, 1, "1");
        digits(x, 6, 9, "531441");
        // 7 times 9 to the 6, and 9 to the 7
        digits(x, 7, 9, "8503056");
        x.days(5);
        digits(x, 0, 3, "0");
        digits(x, 1, 3, "3");
        // 1000 less 7 times 7 times 7
        digits(x, 3, 3, "657");
        // ten to the 60 less one
        digits(x, 60, 9, "999999999999999999999999999999999999999999999999999999999999");
        // ten to the 60 less five to the 60
        digits(x, 60, 5, "999999999999999999132638262011596452794037759304046630859375");
        DUE.is("n 61", x.thaw(0, 61, 1, 0), -1);
        DUE.is("n -1", x.thaw(0, -1, 1, 0), -1);
        DUE.is("t 0", x.thaw(0, 1, 0, 0), -1);
        DUE.is("t 10", x.thaw(0, 1, 10, 0), -1);
        DUE.is("i -2", x.thaw(0, 1, 1, -2), -1);
        DUE.is("no such couple", x.thaw(1, 1, 1, 0), -1);
        x.days(1);
        DUE.is("wed", x.thaw(0, 1, 1, 0), -3);
        DUE.is("t 0 ahead of wed", x.thaw(0, 1, 0, 0), -1);
    }

    public static void main(String[] args) {
        promise28Report();
        promise29Said();
        promise30Learnt();
        promise31Chain();
        promise32Ways();
        promise33Thaw();
        DUE.end();
    }
}
