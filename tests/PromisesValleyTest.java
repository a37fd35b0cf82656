/** Promises 1 to 14: the valley as told. */
public final class PromisesValleyTest {
    private static final Due DUE = new Due();

    private static final int STEADY = 0;
    private static final int COOL = 2;
    private static final int JEALOUS = 3;
    private static final int VAIN = 4;
    private static final int FAITHFUL = 5;

    private static void fault(String text, int answer) {
        EngagedByDeputy x = new EngagedByDeputy();
        x.keep(1, 1, STEADY, 0);
        x.comes(1, 0);
        Rows.text(x, 0, text);
        DUE.is("valley of '" + text + "'", x.valley(0), answer);
        boolean same = x.count(0) == 1 && x.count(1) == 0 && x.count(2) == 0 && x.count(3) == 0 && x.count(4) == 60;
        DUE.holds("'" + text + "' changed nothing", same);
    }

    private static void promise1NewObject() {
        EngagedByDeputy x = new EngagedByDeputy();
        int[] due = {0, 0, 0, 0, 60, 0, 0, 0};
        for (int what = 0; what < due.length; what++) {
            DUE.is("new: count(" + what + ")", x.count(what), due[what]);
        }
        for (int d = 0; d < 8; d++) {
            DUE.is("new: cost(" + d + ")", x.cost(d), -11);
        }
        DUE.is("new: restore()", x.restore(), -3);
        for (int deed = 0; deed < 6; deed++) {
            DUE.is("new: who(" + deed + ", 0)", x.who(deed, 0), deed < 5 ? 1 : 0);
        }
    }

    private static void promise2TextComes() {
        EngagedByDeputy x = Rows.told("m39;m00;w50;l00055;");
        DUE.is("man 0 is of kind", x.one(0, 0, 0), JEALOUS);
        DUE.is("man 0 has figure", x.one(0, 0, 1), 9);
        DUE.is("woman 0 is of kind", x.one(1, 0, 0), FAITHFUL);
        DUE.is("man 0 likes woman 0", x.likes(0, 0, 0), 55);
        Rows.text(x, 3, "l10173;d001;c10;a32;s07;y02;");
        DUE.is("six statements more", x.valley(3), 6);
        DUE.is("faithful woman 0 likes man 1: 73, and 6 on each of 2 days", x.likes(1, 0, 1), 85);
        DUE.is("deputy of man 0", x.one(0, 0, 2), 1);
        DUE.is("couple 0: man", x.about(0, 0), 1);
        DUE.is("couple 0: deeds", x.about(0, 3), 2);
        DUE.is("deed 3 was done by", x.who(3, 2), 2);
        DUE.is("the slip was", x.slip(7), 7);
        DUE.is("the day is", x.count(3), 2);
        Rows.text(x, 3, "d000;");
        DUE.is("itself as deputy", x.valley(3), 1);
        DUE.is("is none", x.one(0, 0, 2), -4);
        DUE.is("the row stays", x.element(3, 0), 'd');
    }

    private static void promise2FaultsOfTheFirstKind() {
        fault("", -1000);
        fault("x", -1000);
        fault("M00;", -1000);
        fault(";", -1000);
        fault("m", -1001);
        fault("m0", -1002);
        fault("m00", -1003);
        fault("m00:", -1003);
        fault("m0;0;", -1002);
        fault("m00;;", -1004);
        fault("m00;w", -1005);
        fault("m00;w0/;", -1006);
        fault("m00;w0:;", -1006);
        fault("l00000", -1006);
        fault("l0000;", -1005);
        fault("l000000;", -1006);
        fault("d00;", -1003);
        fault("d0000;", -1004);
        fault("c0", -1002);
        fault("a0;", -1002);
        fault("s1;", -1002);
        fault("y1;", -1002);
        fault("y 1;", -1001);
        // the first kind is told ahead of the second, wherever it stands
        fault("m90;c99;m0", -1010);
        fault("\u00f0", -1000);
    }

    private static void promise2FaultsOfTheSecondKind() {
        fault("m60;", -2000);
        fault("m00;w60;", -2004);
        fault("m00;m00;m00;m00;m00;", -2016);
        fault("w00;w00;w00;w00;w00;w00;", -2020);
        fault("l20000;", -2000);
        fault("l00000;", -2000);
        fault("w00;l00100;", -2004);
        fault("w00;l01000;", -2004);
        fault("d200;", -2000);
        fault("d001;", -2000);
        fault("d100;", -2000);
        fault("c00;w00;", -2000);
        fault("w00;c10;", -2004);
        fault("w00;c00;c00;", -2008);
        fault("w00;w00;c00;y06;c01;", -2016);
        fault("w00;w00;w00;w00;w00;c00;c01;c02;c03;c04;", -2036);
        fault("a60;", -2000);
        fault("a03;", -2000);
        fault("y00;", -2000);
        fault("y61;", -2000);
        fault("y60;y60;y60;y60;y60;y60;y60;y60;y60;y60;y60;y60;y60;y60;y60;y60;y40;", -2064);
        fault("s99;w00;c00;y03;m60;", -2016);
    }

    private static void promise2Refusals() {
        EngagedByDeputy x = new EngagedByDeputy();
        DUE.is("valley(-1)", x.valley(-1), -1);
        DUE.is("valley(8)", x.valley(8), -1);
        DUE.is("valley of nothing", x.valley(7), -11);
        x.row(7, 1, 4);
        DUE.is("valley of ints", x.valley(7), -12);
        x.row(7, 2, 4);
        DUE.is("valley of longs", x.valley(7), -12);
        x.keep(7, 1, 0, 0);
        DUE.is("valley of a one", x.valley(7), -12);
        Rows.text(x, 7, "y60;y60;y60;y60;y60;y60;y60;y60;y60;y60;y60;y60;y60;y60;y60;y60;y39;");
        DUE.is("999 days by a text", x.valley(7), 17);
        DUE.is("the last day", x.count(3), 999);
    }

    private static void promise3One() {
        EngagedByDeputy x = Rows.told("m07;m17;m27;m37;m47;w57;w25;");
        int[] sulks = {0, 0, 1, 7, 14};
        for (int k = 0; k < 5; k++) {
            DUE.is("kind of man " + k, x.one(0, k, 0), k);
            DUE.is("figure of man " + k, x.one(0, k, 1), 7);
            DUE.is("deputy of man " + k, x.one(0, k, 2), -4);
            DUE.is("sulks of man " + k, x.one(0, k, 3), sulks[k]);
            DUE.is("man " + k + " is bound to", x.one(0, k, 4), -4);
        }
        DUE.is("faithful sulks", x.one(1, 0, 3), 0);
        x.couple(2, 1);
        x.days(6);
        DUE.is("man 2 is bound to", x.one(0, 2, 4), 1);
        DUE.is("woman 1 is bound to", x.one(1, 1, 4), 2);
        DUE.is("what 5", x.one(0, 0, 5), -1);
        DUE.is("what -1", x.one(0, 0, -1), -1);
        DUE.is("side 2", x.one(2, 0, 0), -1);
        DUE.is("side -1", x.one(-1, 0, 0), -1);
        DUE.is("woman 2", x.one(1, 2, 0), -1);
        DUE.is("man 5", x.one(0, 5, 0), -1);
        DUE.is("man -1", x.one(0, -1, 0), -1);
    }

    private static void promise4Grows() {
        EngagedByDeputy x = Rows.told("m07;m17;m27;m37;m47;w57;");
        int[] grows = {3, 5, 1, 5, 12};
        for (int k = 0; k < 5; k++) {
            DUE.is("grows of man " + k, x.grows(0, k, 0), grows[k]);
            DUE.is("grows of man " + k + " with his own", x.grows(0, k, 1), grows[k]);
        }
        DUE.is("faithful with her own", x.grows(1, 0, 1), 6);
        DUE.is("faithful with another", x.grows(1, 0, 0), 0);
        DUE.is("own 2", x.grows(0, 0, 2), -1);
        DUE.is("own -1", x.grows(0, 0, -1), -1);
        DUE.is("no such one", x.grows(1, 1, 0), -1);
        DUE.is("no such side", x.grows(2, 0, 0), -1);
    }

    private static void promise5Retells() {
        EngagedByDeputy x = Rows.told("m07;m17;m27;m37;m47;w57;");
        // 50 less 12; of 3 nothing is a fourth; of 7 one is
        int[][] due = {{50, 38, 40, 19, 33, 83}, {3, 3, 5, 1, 0, 3}, {7, 6, 8, 3, 1, 8}, {0, 0, 2, 0, 0, 0},
            {99, 75, 77, 37, 70, 169}};
        for (int[] row : due) {
            for (int k = 0; k < 5; k++) {
                DUE.is("man " + k + " retells " + row[0], x.retells(0, k, row[0]), row[k + 1]);
            }
            DUE.is("faithful retells " + row[0], x.retells(1, 0, row[0]), row[0]);
        }
        DUE.is("v -1", x.retells(0, 0, -1), -1);
        DUE.is("v 100", x.retells(0, 0, 100), -1);
        DUE.is("no such one", x.retells(0, 5, 0), -1);
    }

    private static void promise6Comes() {
        EngagedByDeputy x = new EngagedByDeputy();
        DUE.is("shelf 8", x.comes(8, 0), -1);
        DUE.is("shelf -1", x.comes(-1, 0), -1);
        DUE.is("side 2 ahead of nothing", x.comes(0, 2), -1);
        DUE.is("nothing", x.comes(0, 0), -11);
        x.row(0, 0, 1);
        DUE.is("a row", x.comes(0, 0), -12);
        x.keep(0, 1, VAIN, 8);
        for (int k = 0; k < 5; k++) {
            DUE.is("comes as", x.comes(0, 1), k);
        }
        DUE.is("no room", x.comes(0, 1), -2);
        DUE.is("men have room", x.comes(0, 0), 0);
        DUE.is("it stays on the shelf", x.cost(0), 46);
        DUE.is("likes at first", x.likes(0, 0, 4), 10);
        DUE.is("its figure", x.one(1, 4, 1), 8);
    }

    private static void promise7And8Likes() {
        EngagedByDeputy x = Rows.told("m00;m00;w00;");
        DUE.is("like(0, 1, 0, 99)", x.like(0, 1, 0, 99), 10);
        DUE.is("like(1, 0, 1, 0)", x.like(1, 0, 1, 0), 10);
        DUE.is("likes(0, 1, 0)", x.likes(0, 1, 0), 99);
        DUE.is("likes(1, 0, 1)", x.likes(1, 0, 1), 0);
        DUE.is("likes(0, 0, 0)", x.likes(0, 0, 0), 10);
        DUE.is("likes(0, 0, 1)", x.likes(0, 0, 1), -1);
        DUE.is("likes(1, 0, 2)", x.likes(1, 0, 2), -1);
        DUE.is("likes(1, 1, 0)", x.likes(1, 1, 0), -1);
        DUE.is("likes(2, 0, 0)", x.likes(2, 0, 0), -1);
        DUE.is("likes(0, -1, 0)", x.likes(0, -1, 0), -1);
        DUE.is("likes(0, 0, -1)", x.likes(0, 0, -1), -1);
        DUE.is("like 100", x.like(0, 0, 0, 100), -1);
        DUE.is("like -1", x.like(0, 0, 0, -1), -1);
        DUE.is("like for nobody", x.like(0, 0, 1, 5), -1);
        DUE.is("refusals changed nothing", x.likes(0, 0, 0), 10);
    }

    private static void promise9Sends() {
        EngagedByDeputy x = Rows.told("m00;m00;w00;");
        DUE.is("first deputy", x.sends(0, 0, 1), -4);
        DUE.is("itself", x.sends(0, 0, 0), 1);
        DUE.is("none now", x.one(0, 0, 2), -4);
        DUE.is("itself again", x.sends(0, 0, 0), -4);
        DUE.is("no such deputy", x.sends(0, 0, 2), -1);
        DUE.is("no such one", x.sends(0, 2, 0), -1);
        DUE.is("deputies are of one side", x.sends(1, 0, 1), -1);
        DUE.is("no such side", x.sends(-1, 0, 0), -1);
    }

    private static void promise10Couple() {
        EngagedByDeputy x = Rows.told("m00;m00;w00;w00;w00;");
        DUE.is("couple(0, 0)", x.couple(0, 0), 0);
        DUE.is("twice", x.couple(0, 0), -3);
        DUE.is("no such woman", x.couple(0, 3), -1);
        DUE.is("no such man", x.couple(2, 0), -1);
        DUE.is("couple(0, 1)", x.couple(0, 1), 1);
        DUE.is("couple(1, 1)", x.couple(1, 1), 2);
        DUE.is("couple(1, 2)", x.couple(1, 2), 3);
        DUE.is("no room", x.couple(0, 2), -2);
        DUE.is("twice ahead of no room", x.couple(1, 2), -3);
        x.days(6);
        DUE.is("bound ahead of no room", x.couple(1, 0), -3);
        EngagedByDeputy y = Rows.told("m00;m00;w00;w00;d001;s00;c00;y01;");
        DUE.is("lost by the slip of its deputies", y.about(0, 2), 2);
        DUE.is("a lost couple is one, too", y.couple(0, 0), -3);
        DUE.is("a man whose deputy slipped is free", y.couple(0, 1), 1);
        DUE.is("the deputy is bound", y.couple(1, 1), -3);
    }

    private static void promise11About() {
        EngagedByDeputy x = Rows.told("m00;m00;m00;w00;w00;w00;d001;d012;d112;a02;a11;a20;c01;");
        int[] deedZero = {0, 1, 0, 0, 2, 2};
        for (int what = 0; what < 6; what++) {
            DUE.is("about(0, " + what + ")", x.about(0, what), deedZero[what]);
        }
        x.days(1);
        DUE.is("the man's deputy does deed 1", x.about(0, 4), 1);
        DUE.is("the woman's deputy does deed 1", x.about(0, 5), 2);
        x.days(1);
        DUE.is("he himself does deed 2", x.about(0, 4), 0);
        DUE.is("she herself does deed 2", x.about(0, 5), 1);
        DUE.is("deeds done", x.about(0, 3), 2);
        x.days(4);
        DUE.is("wed", x.about(0, 2), 1);
        DUE.is("six deeds", x.about(0, 3), 6);
        DUE.is("no doer behind them", x.about(0, 4), -4);
        DUE.is("nor of hers", x.about(0, 5), -4);
        DUE.is("what 6", x.about(0, 6), -1);
        DUE.is("what -1", x.about(0, -1), -1);
        DUE.is("no such couple", x.about(1, 0), -1);
        DUE.is("couple -1", x.about(-1, 0), -1);
        EngagedByDeputy y = Rows.told("m00;m00;d001;d010;w00;c00;a02;");
        DUE.is("the deputy of his deputy is himself", y.about(0, 4), 0);
    }

    private static void promise12And13WhoAndSlip() {
        EngagedByDeputy x = new EngagedByDeputy();
        DUE.is("who(0, 2)", x.who(0, 2), 1);
        DUE.is("who(0, 0)", x.who(0, 0), 2);
        DUE.is("who(5, 1)", x.who(5, 1), 0);
        DUE.is("who(6, 0)", x.who(6, 0), -1);
        DUE.is("who(-1, 0)", x.who(-1, 0), -1);
        DUE.is("who(0, 3)", x.who(0, 3), -1);
        DUE.is("who(0, -1)", x.who(0, -1), -1);
        DUE.is("slip(0)", x.slip(0), 60);
        DUE.is("slip(99)", x.slip(99), 0);
        DUE.is("slip(100)", x.slip(100), -1);
        DUE.is("slip(-1)", x.slip(-1), -1);
        DUE.is("count(4)", x.count(4), 99);
    }

    private static void promise14Days() {
        EngagedByDeputy x = Rows.told("m00;w00;m00;w00;c00;c11;c01;");
        DUE.is("days(0)", x.days(0), -1);
        DUE.is("days(61)", x.days(61), -1);
        DUE.is("days(-1)", x.days(-1), -1);
        DUE.is("two couples do a deed each, the third waits", x.days(1), 2);
        DUE.is("ten deeds more, then none", x.days(60), 10);
        DUE.is("wed", x.count(6), 2);
        DUE.is("lost", x.count(7), 1);
        DUE.is("day", x.count(3), 61);
        for (int i = 0; i < 15; i++) {
            x.days(60);
        }
        DUE.is("day 961 and 39", x.days(39), -3);
        DUE.is("day 961 and 38", x.days(38), 0);
        DUE.is("day", x.count(3), 999);
        DUE.is("the last day has gone", x.days(1), -3);
    }

    private static void daysGrowLikes() {
        EngagedByDeputy x = Rows.told("m00;w59;c00;l00098;");
        x.days(1);
        DUE.is("98 and 3 are 99", x.likes(0, 0, 0), 99);
        DUE.is("faithful with her own one: 6 more", x.likes(1, 0, 0), 16);
        EngagedByDeputy y = Rows.told("m00;m59;w59;d001;c00;");
        y.days(1);
        DUE.is("faithful as a deputy: nothing more", y.likes(0, 1, 0), 10);
        DUE.is("faithful with a deputy: nothing more", y.likes(1, 0, 1), 10);
        EngagedByDeputy z = Rows.told("m00;m59;w59;d001;c00;c10;s99;");
        z.days(1);
        DUE.is("the deputy is her own one by another couple", z.likes(1, 0, 1), 16);
        DUE.is("and she his", z.likes(0, 1, 0), 16);
    }

    private static void daysMakeOnesSulk() {
        EngagedByDeputy x = Rows.told("m36;m00;w49;w00;d001;d101;c00;s99;");
        x.days(1);
        // man 1 and woman 1 met: neither is anybody's own one
        DUE.is("nobody sulks", x.likes(0, 0, 0), 10);
        DUE.is("they met", x.likes(0, 1, 1), 13);
        x.sends(1, 0, 0);
        x.days(1);
        DUE.is("the jealous man sulks: his own one met his deputy", x.likes(0, 0, 0), 4);
        DUE.is("his own one does not", x.likes(1, 0, 0), 10);
        x.days(1);
        DUE.is("0 at least", x.likes(0, 0, 0), 0);
        EngagedByDeputy y = Rows.told("m00;m45;m20;w00;w33;c00;c01;c10;c20;");
        y.days(1);
        DUE.is("vain man 1, whose own one met man 0", y.likes(0, 1, 0), 0);
        DUE.is("cool man 2, whose own one met man 0", y.likes(0, 2, 0), 9);
        DUE.is("jealous woman 1, whose own one met woman 0", y.likes(1, 1, 0), 7);
        DUE.is("who met does not sulk", y.likes(0, 0, 0), 13);
    }

    private static void daysBringSlips() {
        // the deputy likes her 15, 20, 25, 30, she likes him 13, 16, 19, 22
        EngagedByDeputy x = Rows.told("m00;m10;w00;w00;d001;c00;c01;c11;s21;");
        DUE.is("three deeds of couple 0, none of the others", x.days(3), 3);
        DUE.is("with the slip no deed, but couple 1 may go on", x.days(1), 0);
        DUE.is("couple 0 is lost", x.about(0, 2), 2);
        DUE.is("couple 0 had done", x.about(0, 3), 3);
        DUE.is("couple 1 goes on", x.about(1, 2), 0);
        DUE.is("couple 2 is lost: the deputy is bound", x.about(2, 2), 2);
        DUE.is("the deputy is bound to", x.one(0, 1, 4), 0);
        DUE.is("she is bound to", x.one(1, 0, 4), 1);
        DUE.is("he is free", x.one(0, 0, 4), -4);
        DUE.is("couple 1 waits: his deputy is bound", x.days(60), 0);
        x.sends(0, 0, 0);
        DUE.is("without a deputy it does all", x.days(60), 6);
        DUE.is("couple 1 is wed", x.about(1, 2), 1);
        EngagedByDeputy y = Rows.told("m00;w00;c00;l00099;l10099;s00;");
        DUE.is("the two themselves never slip", y.days(6), 6);
        EngagedByDeputy z = Rows.told("m00;m10;w00;d001;c00;s22;y04;");
        DUE.is("as much as the slip is not above it", z.about(0, 2), 0);
        z.days(1);
        DUE.is("one deed behind it is", z.about(0, 2), 2);
    }

    public static void main(String[] args) {
        promise1NewObject();
        promise2TextComes();
        promise2FaultsOfTheFirstKind();
        promise2FaultsOfTheSecondKind();
        promise2Refusals();
        promise3One();
        promise4Grows();
        promise5Retells();
        promise6Comes();
        promise7And8Likes();
        promise9Sends();
        promise10Couple();
        promise11About();
        promise12And13WhoAndSlip();
        promise14Days();
        daysGrowLikes();
        daysMakeOnesSulk();
        daysBringSlips();
        DUE.end();
    }
}
