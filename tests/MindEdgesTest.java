import java.util.function.Supplier;
import java.util.function.ToIntFunction;

/** Promises 15 to 22, 34 and 35, sentence by sentence: what is only in mind, its first and last days, ties, years by seeds. */
public final class MindEdgesTest {
    private static final Due DUE = new Due();

    private static final int NONE = -4;

    /** Couple 0's doers, man 1 and woman 0, slip on day 3: couples 1 and 3, which are man 1's, are lost, too. */
    private static EngagedByDeputy busy() {
        return Rows.told("m35;m10;m22;w41;w00;w50;d001;d112;s20;c00;c11;c02;c10;");
    }

    /** Man 0 is wed to woman 0 on day 6 from now; couple 1, with woman 1, waits till then. */
    private static EngagedByDeputy oneManTwoWomen() {
        return Rows.told("m00;w00;w00;c00;c01;");
    }

    private static void asked(String call, ToIntFunction<EngagedByDeputy> asked) {
        Supplier<EngagedByDeputy> made = () -> {
            EngagedByDeputy x = busy();
            Rows.numbers(x, 1, 1, 0, 1, 2);
            x.keep(2, 1, 3, 3);
            return x;
        };
        Sight.unchanged(DUE, call + " is only told", made, asked, asked.applyAsInt(made.get()));
    }

    /** What only tells leaves all as it is. */
    private static void inMindNothingChanges() {
        asked("one", x -> x.one(0, 0, 0));
        asked("grows", x -> x.grows(0, 0, 1));
        asked("retells", x -> x.retells(0, 0, 50));
        asked("likes", x -> x.likes(0, 0, 0));
        asked("about", x -> x.about(0, 4));
        for (int what = 0; what < 4; what++) {
            int w = what;
            asked("fate", x -> x.fate(1, 60, w));
        }
        asked("then", x -> x.then(0, 0, 0, 60));
        asked("bound", x -> x.bound(0, 1, 60));
        asked("slips", x -> x.slips(60, 0));
        asked("soonest", x -> x.soonest());
        asked("orders", x -> x.orders(0));
        asked("all days", x -> x.orders(1));
        asked("deputies", x -> x.deputies(0, 0));
        asked("day with deputies", x -> x.deputies(0, 1));
        asked("bestWho", x -> x.bestWho(0));
        asked("leave", x -> x.leave(1));
        asked("stable", x -> x.stable(0));
        asked("allStable", x -> x.allStable());
        asked("most", x -> x.most());
        asked("mostOf", x -> x.mostOf(0));
        asked("report", x -> x.report(0, 0, 50));
        asked("said", x -> x.said(0, 0, 50, 1));
        asked("learnt", x -> x.learnt(1, 0));
        asked("chain", x -> x.chain(0, 0, 0));
        asked("ways", x -> x.ways(-1));
        asked("thaw", x -> x.thaw(0, 60, 5, -1));
        asked("judge", x -> x.judge(0, 0, 0, 1));
        asked("seeds", x -> x.seeds(20, 1, 0));
        asked("image", x -> x.image());
        asked("count", x -> x.count(5));
        asked("cost", x -> x.cost(2));
        asked("toss", x -> x.toss(2));
        asked("element", x -> (int) x.element(1, 2));
    }

    /** Each call in mind begins from now, whatever was asked ahead of it. */
    private static void eachAskingBeginsFromNow() {
        EngagedByDeputy x = busy();
        EngagedByDeputy other = busy();
        for (int round = 0; round < 2; round++) {
            x.seeds(3, 7, 0);
            DUE.is("then behind seeds", x.then(0, 1, 0, 3), other.then(0, 1, 0, 3));
            x.fate(0, 60, 0);
            DUE.is("bound behind fate", x.bound(0, 1, 2), NONE);
            x.orders(0);
            DUE.is("slips behind orders", x.slips(4, 1), 3);
            x.slips(60, 1);
            DUE.is("soonest behind slips", x.soonest(), other.soonest());
            x.bestWho(3);
            DUE.is("fate behind bestWho", x.fate(1, 2, 2), other.fate(1, 2, 2));
            x.deputies(0, 0);
            DUE.is("orders behind deputies", x.orders(1), other.orders(1));
            x.orders(0);
            DUE.is("fate behind orders: by numbers again", x.fate(3, 60, 2), other.fate(3, 60, 2));
            DUE.is("deputies behind it", x.deputies(1, 1), other.deputies(1, 1));
            x.then(0, 0, 0, 60);
            DUE.is("judge behind then", x.slips(0, 0), 0);
        }
        EngagedByDeputy y = oneManTwoWomen();
        DUE.is("soonest", y.soonest(), 6);
        DUE.is("soonest again", y.soonest(), 6);
        y.days(1);
        DUE.is("soonest behind a day", y.soonest(), 5);
        DUE.is("bound", y.bound(0, 0, 5), 0);
        DUE.is("not yet", y.bound(0, 0, 4), NONE);
        DUE.is("then", y.then(0, 0, 0, 5), 28);
        DUE.is("now", y.then(0, 0, 0, 0), 13);
        // texts and orders that are told in mind leave nothing behind
        Rows.text(y, 3, "y05;m60;");
        DUE.is("a text with a fault behind days", y.valley(3), -2004);
        DUE.is("slips behind it", y.slips(60, 0), 0);
        DUE.is("fate behind it", y.fate(0, 60, 3), 5);
    }

    /** "n DAYS (0 .. 60) on": 0 is now. */
    private static void inNoDays() {
        EngagedByDeputy x = busy();
        x.days(4);
        for (int c = 0; c < 4; c++) {
            DUE.is("how couple " + c + " is", x.fate(c, 0, 0), x.about(c, 2));
            DUE.is("its deeds", x.fate(c, 0, 1), x.about(c, 3));
            DUE.is("it has not waited", x.fate(c, 0, 2), 0);
            DUE.is("nor ended in these days", x.fate(c, 0, 3), NONE);
        }
        for (int k = 0; k < 3; k++) {
            DUE.is("his likes", x.then(0, k, 0, 0), x.likes(0, k, 0));
            DUE.is("he is bound to", x.bound(0, k, 0), x.one(0, k, 4));
            DUE.is("she is bound to", x.bound(1, k, 0), x.one(1, k, 4));
        }
        DUE.is("no slips, though there were", x.slips(0, 0), 0);
        DUE.is("nor a first one", x.slips(0, 1), NONE);
    }

    /** What is in mind in n days is what n days bring; also 60 days behind day 999. */
    private static void inMindIsAsItComes() {
        for (int n = 1; n <= 12; n++) {
            EngagedByDeputy x = busy();
            EngagedByDeputy y = busy();
            y.days(n);
            for (int c = 0; c < 4; c++) {
                DUE.is("couple " + c + " in " + n + " days", x.fate(c, n, 0), y.about(c, 2));
                DUE.is("its deeds in " + n + " days", x.fate(c, n, 1), y.about(c, 3));
            }
            for (int k = 0; k < 3; k++) {
                for (int j = 0; j < 3; j++) {
                    DUE.is("his likes in " + n + " days", x.then(0, k, j, n), y.likes(0, k, j));
                    DUE.is("her likes in " + n + " days", x.then(1, k, j, n), y.likes(1, k, j));
                }
                DUE.is("he in " + n + " days", x.bound(0, k, n), y.one(0, k, 4));
                DUE.is("she in " + n + " days", x.bound(1, k, n), y.one(1, k, 4));
            }
        }
        EngagedByDeputy late = Rows.told("y60;".repeat(16) + "y39;", "m00;w00;c00;");
        DUE.is("behind day 999 days go by in mind", late.fate(0, 6, 0), 1);
        DUE.is("60 of them", late.soonest(), 6);
        DUE.is("seeds, too", late.seeds(1, 1, 0), 1);
        DUE.is("orders, too", late.orders(1), 6);
        DUE.is("deputies, too", late.deputies(0, 1), 6);
    }

    /** "the DAY (1 .. n) at whose end it was WED or LOST", "DAYS it WAITED": the days of n = 5, 6, 7. */
    private static void fateOnTheDayBefore() {
        // couple, n, then how it is, deeds, waited, the day
        int[][] due = {{0, 1, 0, 1, 0, NONE}, {0, 5, 0, 5, 0, NONE}, {0, 6, 1, 6, 0, 6}, {0, 7, 1, 6, 0, 6},
            {1, 1, 0, 0, 1, NONE}, {1, 5, 0, 0, 5, NONE}, {1, 6, 2, 0, 5, 6}, {1, 7, 2, 0, 5, 6}};
        for (int[] row : due) {
            for (int what = 0; what < 4; what++) {
                DUE.is("fate(" + row[0] + ", " + row[1] + ", " + what + ")", oneManTwoWomen().fate(row[0], row[1], what),
                    row[what + 2]);
            }
        }
        // lower number lost: couple 0 waits for couple 1 in each day, also in that at whose end it is lost
        EngagedByDeputy x = Rows.told("m00;m00;w00;w00;d001;c00;c10;", "s99;c11;");
        DUE.is("couple 1's wait for man 1", x.fate(1, 5, 2), 5);
        EngagedByDeputy y = Rows.told("m00;m00;m00;w00;w00;c10;y05;", "d001;c20;");
        DUE.is("couple 0 has done five deeds", y.about(0, 3), 5);
        DUE.is("wed on day 1", y.fate(0, 60, 3), 1);
        DUE.is("couple 1 lost on day 1", y.fate(1, 60, 3), 1);
        DUE.is("ahead of its turn: no wait", y.fate(1, 60, 2), 0);
        // couple 0's man sends one who is bound: it waits on the day at whose end couple 1 takes its woman, too
        EngagedByDeputy z = Rows.told("m00;m00;m00;w00;w00;c11;y06;", "d001;c00;c20;y05;");
        DUE.is("the woman is wed on day 1", z.fate(2, 60, 3), 1);
        DUE.is("couple 1 is lost behind its turn", z.fate(1, 60, 3), 1);
        DUE.is("it has waited on that day", z.fate(1, 60, 2), 1);
    }

    /** "the first one's DAY": of several slips, on one day and on others; of those to come alone. */
    private static void theFirstSlip() {
        // man 2 and woman 2 slip on day 1, man 3 and woman 3 on day 3
        EngagedByDeputy x = Rows.told("m00;m00;m00;m00;w00;w00;w00;w00;d002;d102;d013;d113;", "l02250;l12250;s52;c00;c11;",
            "l03344;l13344;");
        int[] many = {0, 1, 1, 2, 2};
        for (int n = 0; n < many.length; n++) {
            DUE.is("slips in " + n + " days", x.slips(n, 0), many[n]);
            DUE.is("the first in " + n + " days", x.slips(n, 1), n == 0 ? NONE : 1);
        }
        x.days(1);
        DUE.is("one to come", x.slips(60, 0), 1);
        DUE.is("on day 2 from now", x.slips(60, 1), 2);
        DUE.is("none on day 1 from now", x.slips(1, 1), NONE);
        x.days(2);
        DUE.is("none to come", x.slips(60, 0), 0);
        DUE.is("nor a first one", x.slips(60, 1), NONE);
    }

    /** "SOONEST: the fewest DAYS (0 .. 60) till no COUPLE goes on; -4." */
    private static void soonest() {
        DUE.is("no couples", Rows.told("m00;w00;").soonest(), 0);
        DUE.is("six deeds", Rows.told("m00;w00;c00;").soonest(), 6);
        DUE.is("one deed left", Rows.told("m00;w00;c00;y05;").soonest(), 1);
        DUE.is("wed now", Rows.told("m00;w00;c00;y06;").soonest(), 0);
        DUE.is("the last of several", Rows.told("m00;w00;m00;w00;c00;y03;c11;").soonest(), 6);
        // four couples whose doers are all man 4 and woman 4: five days each, and one for their own last deed
        EngagedByDeputy x = Rows.told("m50;m50;m50;m50;m50;w50;w50;w50;w50;w50;", "d004;d014;d024;d034;d104;d114;d124;d134;",
            "s99;c00;c11;c22;c33;");
        DUE.is("one behind the other", x.soonest(), 21);
        DUE.is("the last one's waits", x.fate(3, 60, 2), 15);
        DUE.is("one waits for ever", Rows.told("m00;m00;w00;w00;c11;y06;c00;d001;").soonest(), NONE);
    }

    /** "0 one that is WED now, 61 each that is not in 60 DAYS", "of several the least digits". */
    private static void orders() {
        DUE.is("one couple", Rows.told("m00;w00;c00;").orders(0), 0);
        DUE.is("its day", Rows.told("m00;w00;c00;").orders(1), 6);
        DUE.is("wed now: 0", Rows.told("m00;w00;c00;y06;").orders(1), 0);
        DUE.is("it has a place in the order", Rows.told("m00;w00;c00;y06;").orders(0), 0);
        DUE.is("lost now: 61", Rows.told("m00;w00;w00;c00;c01;y06;").orders(1), 61);
        DUE.is("all alike: the least digits", Rows.told("m00;w00;m00;w00;m00;w00;m00;w00;c00;c11;c22;c33;").orders(0), 123);
        DUE.is("four times 6", Rows.told("m00;w00;m00;w00;m00;w00;m00;w00;c00;c11;c22;c33;").orders(1), 24);
        DUE.is("waits for ever: 61", Rows.told("m00;m00;w00;w00;c11;y06;c00;d001;").orders(1), 61);
        EngagedByDeputy lost = Rows.told("m00;m00;m00;w00;w00;w00;d002;d102;s12;", "c00;c20;c02;c22;y01;");
        DUE.is("all four lost", lost.count(7), 4);
        DUE.is("four times 61", lost.orders(1), 244);
        DUE.is("all alike: the least digits of four", lost.orders(0), 123);
        // each of four couples waits for the one doer they share; those with deeds done should come first
        EngagedByDeputy x = Rows.told("m50;m50;m50;m50;m50;w50;w50;w50;w50;w50;s99;", "c33;y04;c22;y02;d024;d034;",
            "c11;c00;d004;d014;");
        DUE.is("couple 0 wed now", x.fate(0, 0, 0), 1);
        DUE.is("two days of couple 1 have gone", x.about(1, 3), 2);
        // then couple 1 needs the doer for 3 days and one of its own, 2 and 3 for 5: 4, 9, 14
        DUE.is("the one with fewest deeds left ahead", x.orders(0), 123);
        DUE.is("0, 4, 9 and 14", x.orders(1), 27);
        EngagedByDeputy y = Rows.told("m50;m50;m50;m50;m50;w50;w50;w50;w50;w50;s99;", "c00;c11;c22;c33;",
            "d004;d014;d024;d034;");
        DUE.is("5 and 1, 10 and 1, 15 and 1, 20 and 1", y.orders(1), 54);
        DUE.is("all alike", y.orders(0), 123);
    }

    /** Those with fewest days of the doer whom all share come first, whatever their numbers. */
    private static void ordersTurnRound() {
        String ones = "m50;m50;m50;m50;m50;w50;w50;w50;w50;w50;s99;";
        EngagedByDeputy x = Rows.told(ones, "c00;c11;c22;c33;d004;d014;d024;");
        // three days: couple 3 does three deeds by its own two, couple 0 three by man 4
        x.days(3);
        x.sends(0, 3, 4);
        int[] deeds = {3, 0, 0, 3};
        for (int c = 0; c < 4; c++) {
            DUE.is("deeds of couple " + c, x.about(c, 3), deeds[c]);
        }
        // two days of man 4 for couple 0 and couple 3 each, five for 1 and 2: 3, 5, 10, 15
        DUE.is("0 and 3 ahead", x.orders(0), 312);
        DUE.is("3, 5, 10 and 15", x.orders(1), 33);
        // couple 0's own man is man 4: in these days it is ahead of all who send him, and when it is wed he is bound
        EngagedByDeputy y = Rows.told(ones, "c40;c11;c22;c33;d014;d024;y01;d022;y01;d011;y01;d014;d024;d034;");
        int[] done = {3, 1, 2, 3};
        for (int c = 0; c < 4; c++) {
            DUE.is("deeds of couple " + c + " in the other", y.about(c, 3), done[c]);
        }
        // 3 needs man 4 for 2 days and one of its own, 2 for 3 and one, 1 for 4 and one, 0 for 3
        DUE.is("the highest digits of all", y.orders(0), 3210);
        DUE.is("3, 6, 10 and 12", y.orders(1), 31);
        // man 0 is sent by man 1: couple 1 must come ahead of couple 0, at whose end he is bound
        EngagedByDeputy one = Rows.told(ones, "d010;c00;c11;c22;c33;");
        DUE.is("1 ahead of 0, all others by numbers", one.orders(0), 1023);
        DUE.is("11, 6, 6 and 6", one.orders(1), 29);
        // man 0 is sent by man 2, woman 1 by woman 0: 2 ahead of 0, and 0 ahead of 1, whose deed 5 must wait for 0's
        EngagedByDeputy two = Rows.told(ones, "d020;d101;c00;c11;c22;c33;");
        DUE.is("2 ahead of 0, 0 ahead of 1", two.orders(0), 2013);
        DUE.is("11, 11, 6 and 6", two.orders(1), 34);
        EngagedByDeputy z = Rows.told(ones, "c40;c11;c22;c33;y04;d014;d024;d034;");
        DUE.is("0 behind all others", z.orders(0), 1230);
        DUE.is("2, 3, 4 and 5", z.orders(1), 14);
    }

    /** Couple 1's own two are busy as deputies of couple 0's; all but man 4 with woman 4 slip if they meet in their place. */
    private static EngagedByDeputy manFourAndWomanFour() {
        EngagedByDeputy x = Rows.told("m50;m50;m50;m50;m50;w50;w50;w50;w50;w50;", "d010;d110;s98;c11;c00;");
        for (int man = 1; man < 5; man++) {
            for (int woman = man == 4 ? 1 : 0; woman < (man == 4 ? 4 : 5); woman++) {
                x.like(0, man, woman, 99);
                x.like(1, woman, man, 99);
            }
        }
        return x;
    }

    /** "10 times the man's and 1, and the woman's and 1; 0 none", "of several the least", "-4 (it does not go on, too)". */
    private static void deputies() {
        EngagedByDeputy alone = Rows.told("m00;w00;c00;");
        DUE.is("nobody else: none", alone.deputies(0, 0), 0);
        DUE.is("the day", alone.deputies(0, 1), 6);
        EngagedByDeputy alike = Rows.told("m00;m00;w00;w00;d001;d101;s99;c00;");
        DUE.is("all alike: the least is none", alike.deputies(0, 0), 0);
        alike.days(5);
        DUE.is("one deed left, by themselves", alike.deputies(0, 1), 1);
        EngagedByDeputy high = manFourAndWomanFour();
        DUE.is("all others are busy, or slip", high.deputies(1, 0), 55);
        DUE.is("on day 6", high.deputies(1, 1), 6);
        high.like(0, 4, 3, 0);
        DUE.is("woman 3 does not slip now", high.deputies(1, 0), 54);
        high.like(0, 3, 4, 0);
        DUE.is("nor man 3 with woman 4", high.deputies(1, 0), 45);
        // the deputy's number is that of the couple's other one
        EngagedByDeputy man = Rows.told("m00;m00;w00;w00;d001;c01;c10;s99;");
        DUE.is("man 0 for man 1, with woman 0", man.deputies(1, 0), 10);
        EngagedByDeputy woman = Rows.told("m00;m00;w00;w00;d101;c10;c01;s99;");
        DUE.is("woman 0 for woman 1, with man 0", woman.deputies(1, 0), 1);
        EngagedByDeputy last = Rows.told("m50;m50;m50;m50;m50;w50;w50;w50;w50;w50;", "c00;c11;c22;c33;",
            "d004;d014;d024;d104;d114;d124;s99;");
        // couple 3's own two are free; those of the others wait for man 4 and woman 4, each five days
        DUE.is("couple 3 needs none", last.deputies(3, 0), 0);
        DUE.is("couple 2 waits for nobody if its two do all", last.deputies(2, 0), 0);
        DUE.is("on day 6", last.deputies(2, 1), 6);
        // man 1 and woman 1 are bound by a slip: whoever sends them waits, and is wed as soon without
        EngagedByDeputy bound = Rows.told("m00;m00;m00;w00;w00;w00;d001;d101;s12;c00;y01;", "s99;c22;d021;d121;");
        DUE.is("they wait as it is", bound.fate(1, 60, 0), 0);
        DUE.is("without they are wed", bound.deputies(1, 0), 0);
        DUE.is("on day 6, too", bound.deputies(1, 1), 6);
        EngagedByDeputy never = oneManTwoWomen();
        DUE.is("none with whom it is wed", never.deputies(1, 0), NONE);
        DUE.is("nor a day", never.deputies(1, 1), NONE);
        never.days(6);
        for (int couple = 0; couple < 2; couple++) {
            DUE.is("it does not go on", never.deputies(couple, 0), NONE);
            DUE.is("no day, too", never.deputies(couple, 1), NONE);
        }
    }

    /** "0, 1, 2 with which most COUPLES are WED in 60 DAYS, of several the least". */
    private static void bestWho() {
        EngagedByDeputy none = new EngagedByDeputy();
        for (int deed = 0; deed < 6; deed++) {
            DUE.is("no couples: the least", none.bestWho(deed), 0);
        }
        EngagedByDeputy wed = Rows.told("m00;w00;c00;y06;");
        DUE.is("all wed now: the least", wed.bestWho(0), 0);
        // man 1, the deputy, is bound; man 2, his deputy, is not: with 0 and with 2 they are wed
        EngagedByDeputy x = Rows.told("m00;m00;m00;w00;w00;c11;y06;", "c00;d001;d012;s99;a10;a20;a30;a40;");
        DUE.is("as it is it waits", x.fate(1, 60, 0), 0);
        DUE.is("0 and 2 are alike", x.bestWho(0), 0);
        DUE.is("deed 5 does not help", x.bestWho(5), 0);
        DUE.is("it waits still", x.fate(1, 60, 2), 60);
        // man 1 and woman 1 do deeds 1 to 4 for couple 0; if they also meet at a deed 0, they slip at deed 4. They do so as
        // couple 1's two with 0, and as couple 0's deputies with 1; with 2 man 2 does it (there is no 3, which would be best)
        EngagedByDeputy ring = Rows.told("m00;m10;m00;w00;w00;d020;d012;d001;d101;c00;c11;a50;s24;");
        DUE.is("2 in a ring of three", ring.bestWho(0), 2);
        // a deed that is done already does not matter
        EngagedByDeputy y = Rows.told("m00;w00;c00;y02;");
        DUE.is("a deed done", y.bestWho(1), 0);
    }

    /** "place 0: now", "one beyond 60, too", "the least number of the SORT is skipped wherever it stands". */
    private static void judged() {
        int[] leasts = {-128, Integer.MIN_VALUE};
        for (int sort = 0; sort < 2; sort++) {
            EngagedByDeputy x = Rows.told("m00;w00;c00;");
            Rows.numbers(x, 1, sort, 10, 13, 16, 19, 22, 25, 28, 28);
            DUE.is("all so", x.judge(0, 0, 0, 1), NONE);
            for (int i = 0; i < 8; i++) {
                x.put(1, i, 50);
                DUE.is("not so at " + i, x.judge(0, 0, 0, 1), i);
                x.put(1, i, leasts[sort]);
            }
            DUE.is("all skipped", x.judge(0, 0, 0, 1), NONE);
            x.put(1, 0, leasts[sort] + 1);
            DUE.is("one more than the least is not skipped", x.judge(0, 0, 0, 1), 0);
            x.row(1, sort, 100);
            for (int i = 0; i < 100; i++) {
                x.put(1, i, leasts[sort]);
            }
            DUE.is("a hundred skipped", x.judge(1, 0, 0, 1), NONE);
            x.put(1, 60, 28);
            DUE.is("place 60 is the last that can be so", x.judge(1, 0, 0, 1), NONE);
            x.put(1, 99, 28);
            DUE.is("99 can't", x.judge(1, 0, 0, 1), 99);
            x.put(1, 61, 28);
            DUE.is("61 can't", x.judge(1, 0, 0, 1), 61);
            x.put(1, 60, 27);
            DUE.is("60 is not so", x.judge(1, 0, 0, 1), 60);
        }
        EngagedByDeputy x = Rows.told("m00;w00;c00;");
        Rows.numbers(x, 1, 2, 10, 13);
        DUE.is("longs", x.judge(0, 0, 0, 1), NONE);
        x.put(1, 1, Integer.MIN_VALUE);
        DUE.is("the least int is no least long", x.judge(0, 0, 0, 1), 1);
        Rows.numbers(x, 1, 1, 10, -128);
        DUE.is("the least byte is no least int", x.judge(0, 0, 0, 1), 1);
        x.row(1, 2, 0);
        DUE.is("nothing told", x.judge(0, 0, 0, 1), NONE);
        x.days(3);
        Rows.numbers(x, 1, 0, 19, 22, 25, 28);
        DUE.is("from now on", x.judge(0, 0, 0, 1), NONE);
        EngagedByDeputy y = Rows.told("m00;m47;w00;w20;c01;");
        Rows.numbers(y, 1, 0, 10, 11, 12);
        DUE.is("of the woman for the man", y.judge(1, 1, 0, 1), NONE);
        DUE.is("of the man for her", y.judge(0, 0, 1, 1), 1);
    }

    /** A year with one slip or none, by the first draw (man 0 for woman 0), the third (she for him) far above it. */
    private static EngagedByDeputy slipByTheFirstDraw(int slip) {
        EngagedByDeputy x = Rows.told("m50;w50;w50;d110;c01;");
        x.slip(slip);
        return x;
    }

    /** "z becomes z times 1103515245 plus 12345 (an int); (z without its sign's bit over 65536, cut) modulo n". */
    private static void draws() {
        // the first draw: 17 times 65536 and nothing over it, without and with the sign's bit; 18 and the most over it
        int[][] seeds = {{-2070370685, 17}, {77112963, 17}, {1822997278, 18}, {-324486370, 18}};
        for (int[] s : seeds) {
            DUE.is("seed " + s[0] + ": above " + (s[1] - 1), slipByTheFirstDraw(s[1] - 1).seeds(1, s[0], 1), 1);
            DUE.is("then none is wed", slipByTheFirstDraw(s[1] - 1).seeds(1, s[0], 0), 0);
            DUE.is("seed " + s[0] + ": not above " + s[1], slipByTheFirstDraw(s[1]).seeds(1, s[0], 1), 0);
            DUE.is("then one is", slipByTheFirstDraw(s[1]).seeds(1, s[0], 0), 1);
        }
        // below 60, so nobody likes above 59; with slip 0 all slip but those who draw 0
        for (int z : new int[] {0, 1, -1, Integer.MIN_VALUE, Integer.MAX_VALUE}) {
            DUE.is("none above 59, seed " + z, slipByTheFirstDraw(59).seeds(20, z, 1), 0);
            DUE.is("20 wed, seed " + z, slipByTheFirstDraw(59).seeds(20, z, 0), 20);
        }
    }

    /** "n years (1 .. 20) of 30 DAYS from now .. in all": couples of a year, of more, wed now, lost now. */
    private static void years() {
        EngagedByDeputy x = Rows.told("m00;w00;m00;w00;c00;c11;");
        for (int n = 1; n <= 20; n++) {
            DUE.is("wed in " + n + " years", x.seeds(n, 5, 0), 2 * n);
        }
        // 21 days till all are wed: 30 are enough
        EngagedByDeputy y = Rows.told("m50;m50;m50;m50;m50;w50;w50;w50;w50;w50;", "d004;d014;d024;d034;d104;d114;d124;d134;",
            "s99;c00;c11;c22;c33;");
        DUE.is("four in each year", y.seeds(3, 9, 0), 12);
        y.days(6);
        DUE.is("with one that is wed now", y.seeds(3, 9, 0), 12);
        EngagedByDeputy lost = Rows.told("m00;w00;w00;c00;c01;y06;");
        DUE.is("one wed now, one lost now", lost.seeds(20, 1, 0), 20);
        DUE.is("no couples", Rows.told("m00;w00;").seeds(20, 1, 0), 0);
        DUE.is("nobody", new EngagedByDeputy().seeds(20, 1, 1), 0);
        // slips of all years together, as many as each alone with the seed it begins with
        EngagedByDeputy z = Rows.told("m00;m10;w00;d001;c00;s30;");
        int seed = 77;
        int together = 0;
        int wed = 0;
        for (int n = 1; n <= 20; n++) {
            together += z.seeds(1, seed, 1);
            wed += z.seeds(1, seed, 0);
            DUE.is("slips in " + n + " years", z.seeds(n, 77, 1), together);
            DUE.is("wed in " + n + " years", z.seeds(n, 77, 0), wed);
            // four draws a year: two men for a woman, she for two men
            for (int i = 0; i < 4; i++) {
                seed = seed * 1103515245 + 12345;
            }
        }
        DUE.holds("some years slip, some do not: " + together + ", " + wed, together > 0 && wed > 0 && together + wed == 20);
    }

    public static void main(String[] args) {
        inMindNothingChanges();
        eachAskingBeginsFromNow();
        inNoDays();
        inMindIsAsItComes();
        fateOnTheDayBefore();
        theFirstSlip();
        soonest();
        orders();
        ordersTurnRound();
        deputies();
        bestWho();
        judged();
        draws();
        years();
        DUE.end();
    }
}
