/** The sentences of "Terms": sides, likes, kinds with every figure, couples, and what a DAY brings. */
public final class DayEdgesTest {
    private static final Due DUE = new Due();

    private static final int MEN = 0;
    private static final int WOMEN = 1;
    private static final int GOES_ON = 0;
    private static final int WED = 1;
    private static final int LOST = 2;

    private static EngagedByDeputy oneOf(int kind, int figure) {
        EngagedByDeputy x = new EngagedByDeputy();
        x.keep(0, 1, kind, figure);
        x.comes(0, 0);
        return x;
    }

    /** "KINDS: 0 STEADY; 1 WARM .. 5 FAITHFUL", "FIGURE (0 .. 9)": GROWS, SULKS, COST, FAILURE of each. */
    private static void everyKindWithEveryFigure() {
        for (int f = 0; f < 10; f++) {
            int[] grows = {3, 5, 1, 5, 5 + f, 0};
            int[] growsOwn = {3, 5, 1, 5, 5 + f, 6};
            int[] sulks = {0, 0, 1, f, 2 * f, 0};
            int[] costs = {5, 7, 2, 7 + f, 2 * (7 + 2 * f), 5 + f};
            int[] failures = {f, f, f, 100 + f, 200 + costs[4], -15};
            for (int kind = 0; kind < 6; kind++) {
                EngagedByDeputy x = oneOf(kind, f);
                String one = " of kind " + kind + " with " + f;
                DUE.is("kind" + one, x.one(0, 0, 0), kind);
                DUE.is("figure" + one, x.one(0, 0, 1), f);
                DUE.is("grows" + one, x.grows(0, 0, 0), grows[kind]);
                DUE.is("grows with its own" + one, x.grows(0, 0, 1), growsOwn[kind]);
                DUE.is("sulks" + one, x.one(0, 0, 3), sulks[kind]);
                DUE.is("cost" + one, x.cost(0), costs[kind]);
                DUE.is("failure" + one, x.toss(0), f == 0 ? -15 : failures[kind]);
            }
        }
    }

    /** "a fourth of v, cut", "half of a STEADY's, cut", "less FIGURE, 0 at least": every v with every figure. */
    private static void everyNumberRetold() {
        for (int f = 0; f < 10; f++) {
            for (int kind = 0; kind < 6; kind++) {
                EngagedByDeputy x = oneOf(kind, f);
                boolean all = true;
                for (int v = 0; v < 100; v++) {
                    int steady = 0;
                    // of each four three are left, and all that are over
                    for (int k = 1; k <= v; k++) {
                        steady += k % 4 == 0 ? 0 : 1;
                    }
                    int jealous = steady + 2 < f ? 0 : steady + 2 - f;
                    int[] due = {steady, steady + 2, steady >> 1, jealous, jealous + v, v};
                    all &= x.retells(0, 0, v) == due[kind];
                }
                DUE.holds("retells all v as due: kind " + kind + " with " + f, all);
            }
        }
        DUE.is("of 3 no fourth is cut", oneOf(0, 0).retells(0, 0, 3), 3);
        DUE.is("of 4 one is", oneOf(0, 0).retells(0, 0, 4), 3);
        DUE.is("half of 3, cut", oneOf(2, 0).retells(0, 0, 3), 1);
        DUE.is("6 and 2 less 9", oneOf(3, 9).retells(0, 0, 8), 0);
        DUE.is("8 and 2 less 9", oneOf(3, 9).retells(0, 0, 10), 1);
        DUE.is("0 and 8", oneOf(4, 9).retells(0, 0, 8), 8);
    }

    /** "ONES 0 .. 4 as they come", "none at first", "10 at first". */
    private static void onesAsTheyCome() {
        EngagedByDeputy x = new EngagedByDeputy();
        x.keep(0, 1, 1, 1);
        for (int side = 0; side < 2; side++) {
            for (int k = 0; k < 5; k++) {
                DUE.is("one more on side " + side, x.comes(0, side), k);
                DUE.is("no deputy at first", x.one(side, k, 2), -4);
                DUE.is("bound to nobody at first", x.one(side, k, 4), -4);
            }
        }
        for (int side = 0; side < 2; side++) {
            for (int k = 0; k < 5; k++) {
                for (int j = 0; j < 5; j++) {
                    DUE.is("likes at first", x.like(side, k, j, 25 * side + 5 * k + j), 10);
                }
            }
        }
        for (int side = 0; side < 2; side++) {
            for (int k = 0; k < 5; k++) {
                for (int j = 0; j < 5; j++) {
                    DUE.is("each has likes of its own", x.likes(side, k, j), 25 * side + 5 * k + j);
                }
            }
        }
        for (int k = 0; k < 5; k++) {
            DUE.is("a deputy for each", x.sends(0, k, 4 - k), -4);
            DUE.is("of each side", x.sends(1, k, (k + 1) % 5), -4);
        }
        for (int k = 0; k < 5; k++) {
            // man 2 sends himself: none
            DUE.is("each has its own deputy", x.one(0, k, 2), k == 2 ? -4 : 4 - k);
            DUE.is("on each side", x.one(1, k, 2), (k + 1) % 5);
        }
    }

    /** "COUPLES 0 .. 3 as they come (4 at most)", "a ONE may be in several". */
    private static void couplesAsTheyCome() {
        EngagedByDeputy x = Rows.told("m00;m00;w00;w00;");
        int[][] twos = {{1, 0}, {0, 1}, {1, 1}, {0, 0}};
        for (int c = 0; c < 4; c++) {
            DUE.is("couple", x.couple(twos[c][0], twos[c][1]), c);
            DUE.is("its man", x.about(c, 0), twos[c][0]);
            DUE.is("its woman", x.about(c, 1), twos[c][1]);
            DUE.is("it goes on", x.about(c, 2), GOES_ON);
            DUE.is("no deeds", x.about(c, 3), 0);
        }
    }

    /** "WHO does each: 0 the two themselves, 1 the DEPUTY .. (itself, if it has none), 2 the DEPUTY of that one (likewise)". */
    private static void whoDoesADeed() {
        String men = "m00;m00;m00;w00;w00;w00;";
        // deputies, then the man who does it with WHO 0, 1, 2
        String[] texts = {"", "d001;", "d001;d012;", "d001;d010;"};
        int[][] due = {{0, 0, 0}, {0, 1, 1}, {0, 1, 2}, {0, 1, 0}};
        for (int i = 0; i < texts.length; i++) {
            for (int w = 0; w < 3; w++) {
                EngagedByDeputy x = Rows.told(men + texts[i] + "c00;");
                x.who(0, w);
                DUE.is("the man, WHO " + w + " with " + texts[i], x.about(0, 4), due[i][w]);
                DUE.is("the woman has none", x.about(0, 5), 0);
                EngagedByDeputy y = Rows.told(men + texts[i].replace("d0", "d1") + "c00;");
                y.who(0, w);
                DUE.is("the woman, WHO " + w + " with " + texts[i], y.about(0, 5), due[i][w]);
                DUE.is("the man has none", y.about(0, 4), 0);
            }
        }
        EngagedByDeputy x = Rows.told("m00;m00;w00;w00;d001;d101;c00;s99;");
        for (int deed = 0; deed < 6; deed++) {
            DUE.is("deed " + deed + " at first, the man", x.about(0, 4), deed < 5 ? 1 : 0);
            DUE.is("deed " + deed + " at first, the woman", x.about(0, 5), deed < 5 ? 1 : 0);
            DUE.is("one behind the other", x.about(0, 3), deed);
            DUE.is("a deed", x.days(1), 1);
        }
        DUE.is("behind the last they are wed", x.about(0, 2), WED);
    }

    /** "by numbers", "nor has done one in this DAY; else it WAITS". */
    private static void oneDeedADay() {
        // a man, a woman in two couples: the lower number's turn is first
        for (String texts : new String[] {"m00;m00;w00;w00;c00;c01;", "m00;m00;w00;w00;c00;c10;"}) {
            EngagedByDeputy x = Rows.told(texts);
            DUE.is("one deed", x.days(1), 1);
            DUE.is("of couple 0", x.about(0, 3), 1);
            DUE.is("couple 1 waits", x.about(1, 3), 0);
        }
        EngagedByDeputy x = Rows.told("m00;m00;m00;w00;w00;w00;d010;c00;c11;s99;");
        DUE.is("couple 1's deputy is busy", x.fate(1, 5, 2), 5);
        DUE.is("its woman waits with him", x.then(1, 1, 0, 5), 10);
        EngagedByDeputy y = Rows.told("m00;m00;m00;w00;w00;w00;d110;c00;c11;s99;");
        DUE.is("couple 1's woman's deputy is busy", y.fate(1, 5, 2), 5);
        EngagedByDeputy z = Rows.told("m00;m00;w00;w00;c00;c11;");
        DUE.is("two couples, two deeds a day", z.days(5), 10);
        DUE.is("none waits", z.fate(1, 1, 2), 0);
        EngagedByDeputy w = Rows.told("m00;m00;m00;m00;w00;w00;w00;w00;c33;c00;c11;c22;");
        DUE.is("four in a day", w.days(1), 4);
    }

    /** "if neither is BOUND": his doer, her doer; not the couple's own two, who cannot be. */
    private static void whoIsBoundDoesNothing() {
        // man 1 and woman 1 are wed; man 0 sends man 1, or woman 0 sends woman 1
        EngagedByDeputy x = Rows.told("m00;m00;w00;w00;c11;y06;", "c00;d001;");
        DUE.is("his deputy is bound", x.days(60), 0);
        DUE.is("it waits on all days", x.fate(1, 60, 2), 60);
        EngagedByDeputy y = Rows.told("m00;m00;w00;w00;c11;y06;", "c00;d101;");
        DUE.is("her deputy is bound", y.days(60), 0);
        DUE.is("it goes on", y.about(1, 2), GOES_ON);
        DUE.is("he does not send: six deeds", Rows.told("m00;m00;w00;w00;c11;y06;", "c00;").days(60), 6);
        // bound in this very day: couple 0's doers slip ahead of couple 1's turn
        EngagedByDeputy z = Rows.told("m00;m00;m00;w00;w00;w00;d002;d102;d012;s12;c00;c11;");
        DUE.is("man 2 slips with woman 2", z.days(1), 0);
        DUE.is("couple 1 waited in that day", z.about(1, 3), 0);
        DUE.is("and goes on", z.about(1, 2), GOES_ON);
    }

    /** "LIKES of each for the other GROW (99 at most)". */
    private static void likesGrow() {
        int[][] grown = {{0, 3}, {95, 98}, {96, 99}, {97, 99}, {98, 99}, {99, 99}};
        for (int[] g : grown) {
            EngagedByDeputy x = Rows.told("m00;w00;c00;");
            x.like(MEN, 0, 0, g[0]);
            x.like(WOMEN, 0, 0, g[0]);
            x.days(1);
            DUE.is("his from " + g[0], x.likes(MEN, 0, 0), g[1]);
            DUE.is("hers from " + g[0], x.likes(WOMEN, 0, 0), g[1]);
        }
        // her own one is the other of a couple that goes on; in a lost one he is not
        EngagedByDeputy x = Rows.told("m50;m50;m00;w50;w50;w00;d002;d102;s12;c00;y01;", "s99;d010;d110;c11;");
        DUE.is("couple 0 is lost, its two are free", x.about(0, 2), LOST);
        DUE.is("they meet as deputies", x.days(1), 1);
        DUE.is("he was her own one, but it is lost", x.likes(WOMEN, 0, 0), 10);
        DUE.is("and she his", x.likes(MEN, 0, 0), 10);
        EngagedByDeputy y = Rows.told("m50;m50;w50;w50;d010;d110;s99;c11;c00;a02;");
        y.days(1);
        DUE.is("another couple's own ones meet as deputies", y.likes(WOMEN, 0, 0), 16);
        EngagedByDeputy z = Rows.told("m50;w50;w50;m50;d010;d110;s99;c01;c10;c11;");
        z.days(1);
        DUE.is("they are own ones of others", z.likes(MEN, 0, 0), 10);
    }

    /** "each ONE whose own one .. is one of these DOERS, and who isn't the other DOER, SULKS". */
    private static void onesSulk() {
        // all jealous with 4; man 0 and woman 0 meet, whom the others have as own ones
        EngagedByDeputy x = Rows.told("m34;m34;m34;w34;w34;", "c00;c10;c01;c20;");
        x.days(1);
        DUE.is("man 1 sulks over woman 0", x.likes(MEN, 1, 0), 6);
        DUE.is("man 2, too", x.likes(MEN, 2, 0), 6);
        DUE.is("woman 1 sulks over man 0", x.likes(WOMEN, 1, 0), 6);
        DUE.is("those who meet do not: he", x.likes(MEN, 0, 0), 15);
        DUE.is("nor she", x.likes(WOMEN, 0, 0), 15);
        DUE.is("nor does he over woman 1", x.likes(MEN, 0, 1), 10);
        DUE.is("nor she over man 1", x.likes(WOMEN, 0, 1), 10);
        DUE.is("woman 1 not over man 1", x.likes(WOMEN, 1, 1), 10);
        // once for each such couple: both his own ones meet others in one day
        EngagedByDeputy y = Rows.told("m34;m00;m00;w00;w00;c10;c21;c00;c01;");
        DUE.is("two meetings", y.days(1), 2);
        DUE.is("man 0 sulks over woman 0", y.likes(MEN, 0, 0), 6);
        DUE.is("and over woman 1", y.likes(MEN, 0, 1), 6);
        EngagedByDeputy z = Rows.told("m34;m00;m00;w34;w00;w00;", "d001;d102;s99;c00;c11;c22;c12;");
        z.days(1);
        // couple 0: man 1 and woman 2 meet; couple 1: woman 1 waits for man 1; couple 2: man 2 waits for woman 2
        DUE.is("one deed", z.about(0, 3), 1);
        DUE.is("his own one did not meet", z.likes(MEN, 0, 0), 10);
        DUE.is("nor hers", z.likes(WOMEN, 0, 0), 10);
    }

    /** "so much less (0 at least ..)": his and hers. */
    private static void sulksEndAtNothing() {
        int[][] left = {{8, 0}, {7, 0}, {9, 1}, {0, 0}, {99, 91}};
        for (int[] l : left) {
            EngagedByDeputy x = Rows.told("m44;m00;w00;d001;c00;s99;");
            x.like(MEN, 0, 0, l[0]);
            x.days(1);
            DUE.is("man 0 likes her " + l[0] + " less 8", x.likes(MEN, 0, 0), l[1]);
            EngagedByDeputy y = Rows.told("m00;w44;w00;d101;c00;s99;");
            y.like(WOMEN, 0, 0, l[0]);
            y.days(1);
            DUE.is("woman 0 likes him " + l[0] + " less 8", y.likes(WOMEN, 0, 0), l[1]);
        }
    }

    /** "in some COUPLE that goes on": in one that is lost or wed nobody sulks; on the day of its end they still do. */
    private static void onlyInCouplesThatGoOn() {
        EngagedByDeputy x = Rows.told("m34;m00;m00;w00;w00;w00;d002;d102;s12;c00;y01;", "s99;d000;d100;c10;");
        DUE.is("couple 0 is lost, nobody of it is bound", x.about(0, 2), LOST);
        DUE.is("man 1 meets his own one, woman 0", x.days(1), 1);
        DUE.is("man 0 had her as his own one: no more", x.likes(MEN, 0, 0), 10);
        // couple 1 is lost when couple 0 is wed, but its man sulks once more in that meeting
        EngagedByDeputy y = Rows.told("m00;m31;w00;w32;c00;c10;c01;");
        DUE.is("in 5 days", y.then(MEN, 1, 0, 5), 5);
        DUE.is("on the day of the wedding", y.then(MEN, 1, 0, 6), 4);
        DUE.is("and never again", y.then(MEN, 1, 0, 60), 4);
        DUE.is("she, in 5 days", y.then(WOMEN, 1, 0, 5), 0);
        // the slip, too, comes behind the sulking
        EngagedByDeputy z = Rows.told("m34;m00;w00;d001;s12;c00;");
        DUE.is("he sulks on the day of the slip", z.then(MEN, 0, 0, 1), 6);
        DUE.is("it is lost on that day", z.fate(0, 60, 3), 1);
    }

    private static int slipsOnDayOne(int hisLikes, int herLikes, int slip) {
        EngagedByDeputy x = Rows.told("m00;m00;w00;d001;c00;");
        x.like(MEN, 1, 0, hisLikes);
        x.like(WOMEN, 0, 1, herLikes);
        x.slip(slip);
        return x.slips(1, 0);
    }

    /** "if they aren't the two themselves and LIKES of each for the other are above SLIP". */
    private static void slipsComeAboveTheSlip() {
        // each likes the other 3 more when they have met
        DUE.is("both above", slipsOnDayOne(38, 38, 40), 1);
        DUE.is("his as much", slipsOnDayOne(37, 38, 40), 0);
        DUE.is("hers as much", slipsOnDayOne(38, 37, 40), 0);
        DUE.is("both as much", slipsOnDayOne(37, 37, 40), 0);
        DUE.is("only his far above", slipsOnDayOne(99, 0, 40), 0);
        DUE.is("only hers far above", slipsOnDayOne(0, 99, 40), 0);
        DUE.is("99 is never above 99", slipsOnDayOne(99, 99, 99), 0);
        DUE.is("99 is above 98", slipsOnDayOne(99, 99, 98), 1);
        DUE.is("slip 0", slipsOnDayOne(0, 0, 0), 1);
        DUE.is("60 at first", slipsOnDayOne(57, 58, 60), 0);
        EngagedByDeputy cold = Rows.told("m00;m50;w50;d001;c00;l01000;l10100;s00;");
        DUE.is("0 is not above 0", cold.slips(60, 0), 0);
        EngagedByDeputy x = Rows.told("m00;w00;l00099;l10099;s00;c00;");
        DUE.is("the two themselves do not slip", x.slips(60, 0), 0);
        DUE.is("but are wed", x.fate(0, 60, 3), 6);
        DUE.is("his deputy and she", Rows.told("m00;m00;w00;d001;s00;c00;").slips(1, 0), 1);
        DUE.is("he and her deputy", Rows.told("m00;w00;w00;d101;s00;c00;").slips(1, 0), 1);
        DUE.is("both deputies", Rows.told("m00;m00;w00;w00;d001;d101;s00;c00;").slips(1, 0), 1);
    }

    /** "they are BOUND to each other by a SLIP: this COUPLE is LOST, and all others that go on in which one of them is, too." */
    private static void whatASlipBrings() {
        String five = "m00;m00;m00;w00;w00;w00;d002;d102;s12;";
        EngagedByDeputy x = Rows.told(five, "c00;c20;c02;c11;");
        DUE.is("couple 1, man 1 and woman 1, does its deed", x.days(1), 1);
        DUE.is("this couple is lost, though none of its two slipped", x.about(0, 2), LOST);
        DUE.is("no deed for it", x.about(0, 3), 0);
        DUE.is("that of man 2, who slipped", x.about(1, 2), LOST);
        DUE.is("that of woman 2, who slipped", x.about(2, 2), LOST);
        DUE.is("another goes on", x.about(3, 2), GOES_ON);
        DUE.is("he is bound to", x.one(MEN, 2, 4), 2);
        DUE.is("she is bound to", x.one(WOMEN, 2, 4), 2);
        for (int k = 0; k < 2; k++) {
            DUE.is("man " + k + " is not", x.one(MEN, k, 4), -4);
            DUE.is("woman " + k + " is not", x.one(WOMEN, k, 4), -4);
        }
        DUE.is("lost on day 1", Rows.told(five, "c00;c20;c02;c11;").fate(0, 1, 3), 1);
        DUE.is("all of them", Rows.told(five, "c00;c20;c02;c11;").fate(2, 1, 3), 1);
        // they may be a couple of their own: it is lost, too
        EngagedByDeputy y = Rows.told(five, "c00;c22;");
        DUE.is("two couples lost", y.days(1) + y.count(7), 2);
        DUE.is("nobody is wed", y.count(6), 0);
        // what is wed already stays wed
        EngagedByDeputy z = Rows.told("m00;m00;m00;w00;w00;w00;c00;y06;", "d112;d012;s12;c11;");
        DUE.is("man 2 and woman 2 slip", z.slips(60, 0), 1);
        z.days(1);
        DUE.is("couple 0 is wed as it was", z.about(0, 2), WED);
    }

    /** "behind DEED 5 the COUPLE is WED: the two are BOUND to each other, all other COUPLES .. with one of them are LOST." */
    private static void whatAWeddingBrings() {
        EngagedByDeputy x = Rows.told("m00;m00;m00;w00;w00;w00;c00;c10;c01;c22;");
        x.days(5);
        DUE.is("behind deed 4 it goes on", x.about(0, 2), GOES_ON);
        DUE.is("nobody is bound", x.one(MEN, 0, 4), -4);
        x.days(1);
        DUE.is("behind deed 5 it is wed", x.about(0, 2), WED);
        DUE.is("six deeds", x.about(0, 3), 6);
        DUE.is("another couple of hers", x.about(1, 2), LOST);
        DUE.is("another couple of his", x.about(2, 2), LOST);
        DUE.is("others are wed by themselves", x.about(3, 2), WED);
        DUE.is("he is bound to her", x.one(MEN, 0, 4), 0);
        DUE.is("she to him", x.one(WOMEN, 0, 4), 0);
        DUE.is("man 1 is free", x.one(MEN, 1, 4), -4);
        DUE.is("woman 1 is free", x.one(WOMEN, 1, 4), -4);
        // the last deed done by deputies binds the two, not these
        EngagedByDeputy y = Rows.told("m00;m00;w00;w00;d001;d101;a51;s99;c00;y06;");
        DUE.is("wed by deputy", y.about(0, 2), WED);
        DUE.is("he himself is bound", y.one(MEN, 0, 4), 0);
        DUE.is("she herself is bound", y.one(WOMEN, 0, 4), 0);
        DUE.is("his deputy is not", y.one(MEN, 1, 4), -4);
        DUE.is("her deputy is not", y.one(WOMEN, 1, 4), -4);
        DUE.is("nor can they slip behind it", y.slips(60, 0), 0);
        EngagedByDeputy z = Rows.told("m00;m00;w00;w00;d001;d101;a51;s26;c00;y06;");
        DUE.is("the slip at the last deed comes first: lost", z.about(0, 2), LOST);
        DUE.is("five deeds", z.about(0, 3), 5);
        // couple 1 is lost ahead of its turn in that day: it does nothing, nor does it wait
        EngagedByDeputy w = Rows.told("m00;m00;w00;d001;c00;c10;s99;");
        DUE.is("couple 1 waits five days", w.fate(1, 60, 2), 5);
        DUE.is("it could meet on day 6, but is lost", w.fate(1, 60, 1), 0);
        DUE.is("on day 6", w.fate(1, 60, 3), 6);
    }

    /** "all other COUPLES that go on with one of them are LOST", of lower numbers, too: couple 0 waits for one who is bound. */
    private static void lowerNumbersAreLostToo() {
        // man 2 and woman 2 are bound by the slip of couple 1's; man 1 is free again
        String bound = "m00;m00;m00;w00;w00;w00;d012;s12;c00;c12;y01;";
        String[] texts = {"s99;d011;d102;c01;", "s99;d011;d002;c10;"};
        for (String text : texts) {
            EngagedByDeputy x = Rows.told(bound, text);
            DUE.is("couple 2 is wed", x.fate(2, 60, 3), 6);
            DUE.is("couple 0 is lost", x.fate(0, 60, 0), LOST);
            DUE.is("on the same day", x.fate(0, 60, 3), 6);
            DUE.is("behind its turn, in which it waited", x.fate(0, 60, 2), 6);
        }
        // man 0 slips as man 1's deputy, woman 0 as woman 1's
        String[] slips = {"s12;d010;d102;c11;", "s12;d011;d110;d002;c11;"};
        for (String text : slips) {
            EngagedByDeputy x = Rows.told(bound, text);
            DUE.is("a slip", x.slips(1, 0), 1);
            DUE.is("couple 0 is lost by it", x.fate(0, 1, 0), LOST);
            DUE.is("on day 1", x.fate(0, 1, 3), 1);
        }
    }

    /** "DAY is 1 more": with nobody, with couples that wait, with deeds. */
    private static void aDayIsOneMore() {
        for (String text : new String[] {"s10;", "m00;w00;c00;", "m00;m00;w00;w00;c11;y06;c00;d001;"}) {
            EngagedByDeputy x = Rows.told(text);
            int before = x.count(3);
            for (int n = 1; n <= 3; n++) {
                x.days(1);
                DUE.is("day", x.count(3), before + n);
            }
            x.days(60);
            DUE.is("day", x.count(3), before + 63);
        }
        EngagedByDeputy atOnce = Rows.told("m35;m42;w21;w48;w10;d001;d112;c00;c11;c02;s30;");
        EngagedByDeputy dayByDay = Rows.told("m35;m42;w21;w48;w10;d001;d112;c00;c11;c02;s30;");
        int deeds = atOnce.days(9);
        for (int n = 0; n < 9; n++) {
            deeds -= dayByDay.days(1);
        }
        DUE.is("as many deeds day by day", deeds, 0);
        DUE.holds("nine days are nine times one", Sight.of(atOnce).equals(Sight.of(dayByDay)));
    }

    public static void main(String[] args) {
        everyKindWithEveryFigure();
        everyNumberRetold();
        onesAsTheyCome();
        couplesAsTheyCome();
        whoDoesADeed();
        oneDeedADay();
        whoIsBoundDoesNothing();
        likesGrow();
        onesSulk();
        sulksEndAtNothing();
        onlyInCouplesThatGoOn();
        slipsComeAboveTheSlip();
        whatASlipBrings();
        whatAWeddingBrings();
        lowerNumbersAreLostToo();
        aDayIsOneMore();
        DUE.end();
    }
}
