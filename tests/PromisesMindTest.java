/** Promises 15 to 22, 34 and 35: days in mind, told years, years by seeds. */
public final class PromisesMindTest {
    private static final Due DUE = new Due();

    /** His deputy, a warm one, likes her 15, 20, 25, 30, .. and she him 13, 16, 19, 22, ..: above 20 on day 4. */
    private static EngagedByDeputy slipOnDayFour() {
        return Rows.told("m00;m10;w00;d001;c00;s20;");
    }

    /** Man 0 has both women: couple 0 is wed on day 6, couple 1 waits five days and is lost. */
    private static EngagedByDeputy oneManTwoWomen() {
        return Rows.told("m00;w00;w00;c00;c01;");
    }

    private static void promise15Fate() {
        EngagedByDeputy x = oneManTwoWomen();
        // couple, n, then the answers for what 0 .. 3
        int[][] due = {{0, 0, 0, 0, 0, -4}, {0, 5, 0, 5, 0, -4}, {0, 6, 1, 6, 0, 6}, {0, 60, 1, 6, 0, 6},
            {1, 5, 0, 0, 5, -4}, {1, 6, 2, 0, 5, 6}, {1, 60, 2, 0, 5, 6}};
        for (int[] row : due) {
            for (int what = 0; what < 4; what++) {
                DUE.is("fate(" + row[0] + ", " + row[1] + ", " + what + ")", x.fate(row[0], row[1], what), row[what + 2]);
            }
        }
        DUE.is("nothing went by", x.count(3), 0);
        x.days(2);
        DUE.is("deeds there are, not only new ones", x.fate(0, 1, 1), 3);
        DUE.is("the day from now", x.fate(0, 60, 3), 4);
        DUE.is("waits from now", x.fate(1, 60, 2), 3);
        x.days(4);
        DUE.is("wed now: how", x.fate(0, 5, 0), 1);
        DUE.is("wed now: no day", x.fate(0, 5, 3), -4);
        DUE.is("lost now: no waits", x.fate(1, 5, 2), 0);
        DUE.is("no such couple", x.fate(2, 5, 0), -1);
        DUE.is("couple -1", x.fate(-1, 5, 0), -1);
        DUE.is("n 61", x.fate(0, 61, 0), -1);
        DUE.is("n -1", x.fate(0, -1, 0), -1);
        DUE.is("what 4", x.fate(0, 0, 4), -1);
        DUE.is("what -1", x.fate(0, 0, -1), -1);
    }

    private static void promise15WaitsOfThoseWhoWaitForEver() {
        EngagedByDeputy x = Rows.told("m00;m10;w00;w00;d001;c00;c01;s20;");
        DUE.is("couple 0 is lost by a slip", x.fate(0, 60, 3), 4);
        DUE.is("couple 1 waits all days", x.fate(1, 60, 2), 60);
        DUE.is("couple 1 still goes on", x.fate(1, 60, 0), 0);
        DUE.is("couple 1 is never done", x.fate(1, 17, 2), 17);
        // on day 1 man 2, as couple 1's deputy, slips with woman 1; from day 2 on couple 0 would need him
        EngagedByDeputy y = Rows.told("m00;m00;m00;m00;w00;w00;d003;d032;d012;a12;c00;c11;l02199;l11299;");
        DUE.is("a slip on day 1", y.slips(60, 1), 1);
        DUE.is("couple 0 did deed 0", y.fate(0, 60, 1), 1);
        DUE.is("couple 0 waits from day 2 on", y.fate(0, 60, 2), 59);
        DUE.is("also in fewer days", y.fate(0, 2, 2), 1);
        DUE.is("couple 1 is lost", y.fate(1, 60, 3), 1);
    }

    private static void promise16Then() {
        EngagedByDeputy x = Rows.told("m34;m00;w00;d001;c00;");
        int[] his = {10, 6, 2, 0, 0, 0, 5, 5};
        int[] deputys = {10, 13, 16, 19, 22, 25, 25, 25};
        for (int n = 0; n < his.length; n++) {
            DUE.is("jealous man 0 in " + n + " days", x.then(0, 0, 0, n), his[n]);
            DUE.is("his deputy in " + n + " days", x.then(0, 1, 0, n), deputys[n]);
        }
        DUE.is("likes now", x.likes(0, 0, 0), 10);
        DUE.is("no such two", x.then(0, 2, 0, 0), -1);
        DUE.is("nor such", x.then(1, 0, 2, 0), -1);
        DUE.is("n 61", x.then(0, 0, 0, 61), -1);
        DUE.is("n -1", x.then(0, 0, 0, -1), -1);
    }

    private static void promise17Bound() {
        EngagedByDeputy x = slipOnDayFour();
        DUE.is("the deputy in 3 days", x.bound(0, 1, 3), -4);
        DUE.is("the deputy in 4 days", x.bound(0, 1, 4), 0);
        DUE.is("the woman in 4 days", x.bound(1, 0, 4), 1);
        DUE.is("the man in 60 days", x.bound(0, 0, 60), -4);
        DUE.is("no such one", x.bound(1, 1, 0), -1);
        DUE.is("n 61", x.bound(0, 0, 61), -1);
        DUE.is("n -1", x.bound(0, 0, -1), -1);
        DUE.is("wed ones", oneManTwoWomen().bound(0, 0, 6), 0);
    }

    private static void promise18Slips() {
        EngagedByDeputy x = slipOnDayFour();
        DUE.is("slips in 3 days", x.slips(3, 0), 0);
        DUE.is("the first in 3 days", x.slips(3, 1), -4);
        DUE.is("slips in 4 days", x.slips(4, 0), 1);
        DUE.is("the first in 60 days", x.slips(60, 1), 4);
        x.days(1);
        DUE.is("from now", x.slips(60, 1), 3);
        EngagedByDeputy y = Rows.told("m00;m00;m10;m10;w00;w00;d002;d013;c00;c11;s20;l02117;");
        DUE.is("two slips", y.slips(60, 0), 2);
        DUE.is("the first of two", y.slips(60, 1), 4);
        DUE.is("n 61", x.slips(61, 0), -1);
        DUE.is("n -1", x.slips(-1, 0), -1);
        DUE.is("what 2", x.slips(0, 2), -1);
        DUE.is("what -1", x.slips(0, -1), -1);
    }

    private static void promise19Soonest() {
        DUE.is("no couples", new EngagedByDeputy().soonest(), 0);
        DUE.is("wed and lost on day 6", oneManTwoWomen().soonest(), 6);
        DUE.is("lost on day 4", slipOnDayFour().soonest(), 4);
        DUE.is("never", Rows.told("m00;m10;w00;w00;d001;c00;c01;s20;").soonest(), -4);
        EngagedByDeputy x = oneManTwoWomen();
        x.days(6);
        DUE.is("none goes on now", x.soonest(), 0);
    }

    private static void promise20Orders() {
        EngagedByDeputy x = oneManTwoWomen();
        DUE.is("both orders alike: the least digits", x.orders(0), 1);
        DUE.is("6 and 61", x.orders(1), 67);
        // couple 0's man is the deputy of couple 1's: whoever comes first, the other waits for the deputy's deeds
        EngagedByDeputy y = Rows.told("m00;m00;w00;w00;w00;d010;c00;c11;c02;s99;");
        DUE.is("couple 1 first: wed on day 6, and 0 behind its five deeds by deputy", y.orders(0), 102);
        DUE.is("6, 11 and 61", y.orders(1), 78);
        DUE.is("nothing went by", y.count(3), 0);
        x.days(6);
        DUE.is("one wed now and one lost", x.orders(1), 61);
        DUE.is("digits of these", x.orders(0), 1);
        DUE.is("no couples", new EngagedByDeputy().orders(1), -3);
        DUE.is("what ahead of no couples", new EngagedByDeputy().orders(2), -1);
        DUE.is("what -1", x.orders(-1), -1);
    }

    private static void promise21Deputies() {
        EngagedByDeputy x = slipOnDayFour();
        DUE.is("without a deputy there is no slip", x.deputies(0, 0), 0);
        DUE.is("and they are wed on day 6", x.deputies(0, 1), 6);
        // man 1, as man 0's deputy, is busy on five days; man 0 can do his deeds on these
        EngagedByDeputy y = Rows.told("m00;m00;w00;w00;d001;c00;c11;s99;");
        DUE.is("man 0 for man 1", y.deputies(1, 0), 10);
        DUE.is("wed on day 6", y.deputies(1, 1), 6);
        DUE.is("as it is they are wed on day 11", y.fate(1, 60, 3), 11);
        DUE.is("man 1 keeps what he has", y.one(0, 1, 2), -4);
        EngagedByDeputy z = Rows.told("m00;m00;w00;w00;d101;c00;c11;s99;");
        DUE.is("woman 0 for woman 1", z.deputies(1, 0), 1);
        DUE.is("wed on day 6, too", z.deputies(1, 1), 6);
        // he who could stand for man 1, or she who could for woman 1, would slip: the next one does
        EngagedByDeputy men = Rows.told("m00;m00;m00;w00;w00;d001;c00;c11;s98;l00199;l11099;");
        DUE.is("man 2 of three, with two women", men.deputies(1, 0), 30);
        EngagedByDeputy women = Rows.told("m00;m00;w00;w00;w00;d101;c00;c11;s98;l01099;l10199;");
        DUE.is("woman 2 of three, with two men", women.deputies(1, 0), 3);
        // couple 1's two are the deputies of couple 0's
        EngagedByDeputy w = Rows.told("m00;m00;m00;w00;w00;w00;d001;d101;c00;c11;s99;");
        DUE.is("man 0 and woman 0", w.deputies(1, 0), 11);
        w.days(11);
        DUE.is("wed: none", w.deputies(0, 0), -4);
        DUE.is("wed: no day", w.deputies(0, 1), -4);
        DUE.is("no such couple", w.deputies(2, 0), -1);
        DUE.is("couple -1", w.deputies(-1, 0), -1);
        DUE.is("what 2", w.deputies(0, 2), -1);
        DUE.is("what -1", w.deputies(0, -1), -1);
        EngagedByDeputy v = oneManTwoWomen();
        DUE.is("none with whom couple 1 is wed", v.deputies(1, 0), -4);
        DUE.is("nor a day", v.deputies(1, 1), -4);
    }

    private static void promise22BestWho() {
        EngagedByDeputy x = Rows.told("m00;m00;w00;d001;c00;l10199;l01099;a10;a20;a30;a40;");
        DUE.is("his deputy would slip with her", x.bestWho(0), 0);
        DUE.is("what it is stays", x.who(0, 1), 1);
        // man 0 and woman 0, if they do a deed 0, like each other 13, and by deed 1 of couple 0 then 16, above the slip:
        // they do a deed 0 if it is done by the two themselves, or by deputies of deputies
        EngagedByDeputy y = Rows.told("m00;m00;m00;w00;w00;w00;d012;d020;d001;d112;d120;d101;",
            "c11;c00;a12;a20;a30;a40;s14;l02200;");
        DUE.is("both couples are wed only with deputies", y.bestWho(0), 1);
        // here they do one if it is done by the two themselves, or by deputies
        EngagedByDeputy z = Rows.told("m00;m00;m00;w00;w00;w00;d010;d110;d002;d102;c11;c00;a20;a30;a40;s14;l02200;");
        DUE.is("both couples are wed only with deputies of deputies", z.bestWho(0), 2);
        DUE.is("no couples: all alike", new EngagedByDeputy().bestWho(3), 0);
        DUE.is("deed 6", x.bestWho(6), -1);
        DUE.is("deed -1", x.bestWho(-1), -1);
    }

    private static void promise34Judge() {
        EngagedByDeputy x = Rows.told("m34;m00;w00;d001;c00;");
        int least = Integer.MIN_VALUE;
        Rows.numbers(x, 1, 1, 10, 6, 2, 0, 0, 0, 5, 5);
        DUE.is("all so", x.judge(0, 0, 0, 1), -4);
        x.put(1, 0, 11);
        DUE.is("not so now", x.judge(0, 0, 0, 1), 0);
        x.put(1, 0, least);
        DUE.is("skipped", x.judge(0, 0, 0, 1), -4);
        x.put(1, 7, 4);
        DUE.is("the last is not so", x.judge(0, 0, 0, 1), 7);
        Rows.numbers(x, 1, 0, -128, 6, -128, 1);
        DUE.is("a byte skipped", x.judge(0, 0, 0, 1), 3);
        Rows.numbers(x, 1, 2, least);
        DUE.is("no least long", x.judge(0, 0, 0, 1), 0);
        Rows.numbers(x, 1, 1, -128);
        DUE.is("no least int", x.judge(0, 0, 0, 1), 0);
        x.row(1, 0, 0);
        DUE.is("nothing told", x.judge(0, 0, 0, 1), -4);
        x.row(1, 1, 64);
        for (int i = 0; i < 62; i++) {
            x.put(1, i, i < 60 ? least : 5);
        }
        DUE.is("place 60 can be so, 61 can't", x.judge(0, 0, 0, 1), 61);
        x.put(1, 61, least);
        x.put(1, 62, least);
        DUE.is("beyond 60 skipped, too", x.judge(0, 0, 0, 1), 63);
        x.put(1, 63, least);
        DUE.is("all so or skipped", x.judge(0, 0, 0, 1), -4);
        DUE.is("no such one", x.judge(0, 2, 0, 1), -1);
        DUE.is("no such shelf", x.judge(0, 0, 0, 8), -1);
        DUE.is("nothing", x.judge(0, 0, 0, 7), -11);
        x.keep(7, 1, 0, 0);
        DUE.is("a one", x.judge(0, 0, 0, 7), -12);
    }

    private static void promise35Seeds() {
        EngagedByDeputy x = Rows.told("m00;w00;m00;w00;c00;c11;");
        DUE.is("two are wed in each of 20 years", x.seeds(20, 5, 0), 40);
        DUE.is("nobody can slip", x.seeds(20, 5, 1), 0);
        DUE.is("likes are as they were", x.likes(0, 0, 0), 10);
        // drawn with seed 1: man 0 16838 % 60 = 38, man 1 5758 % 60 = 58, woman 10113 % 60 = 33 and 17515 % 60 = 55
        EngagedByDeputy y = Rows.told("m50;m50;w50;d001;c00;s54;");
        DUE.is("58 and 55 are above 54", y.seeds(1, 1, 1), 1);
        DUE.is("so none is wed", y.seeds(1, 1, 0), 0);
        y.slip(55);
        DUE.is("55 is not above 55", y.seeds(1, 1, 1), 0);
        DUE.is("so one is wed", y.seeds(1, 1, 0), 1);
        y.slip(10);
        // 31051 % 60 = 31, 5627 % 60 = 47, 23010 % 60 = 30, 7419 % 60 = 39: the second year goes on with the seed
        DUE.is("the second year's likes are above 10, too", y.seeds(2, 1, 1), 2);
        y.slip(39);
        DUE.is("of two years only the first slips", y.seeds(2, 1, 1), 1);
        DUE.is("n 0", x.seeds(0, 1, 0), -1);
        DUE.is("n 21", x.seeds(21, 1, 0), -1);
        DUE.is("what 2", x.seeds(1, 1, 2), -1);
        DUE.is("what -1", x.seeds(1, 1, -1), -1);
        x.days(6);
        DUE.is("those wed now are wed in each year", x.seeds(3, -77, 0), 6);
    }

    public static void main(String[] args) {
        promise15Fate();
        promise15WaitsOfThoseWhoWaitForEver();
        promise16Then();
        promise17Bound();
        promise18Slips();
        promise19Soonest();
        promise20Orders();
        promise21Deputies();
        promise22BestWho();
        promise34Judge();
        promise35Seeds();
        DUE.end();
    }
}
