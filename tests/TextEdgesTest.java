/** Promise 2, sentence by sentence of THE TEXT: each letter's shape, each number's range, FAULTS and their places. */
public final class TextEdgesTest {
    private static final Due DUE = new Due();

    /** One statement of each letter that can be done behind FIRST. */
    private static final String[] STATEMENTS = {"m59;", "w59;", "l01099;", "d010;", "c10;", "a52;", "s99;", "y60;"};
    private static final String FIRST = "m00;w00;m11;";

    private static EngagedByDeputy withText(String text) {
        EngagedByDeputy x = new EngagedByDeputy();
        Rows.text(x, 0, text);
        return x;
    }

    private static void answer(String text, int want) {
        DUE.is("valley of '" + text + "'", withText(text).valley(0), want);
    }

    /** The fault is due, and nothing of the text comes. */
    private static void fault(String text, int want) {
        Sight.unchanged(DUE, "valley of '" + text + "'", () -> withText(text), x -> x.valley(0), want);
    }

    /** "STATEMENTS, each with ";" behind, one at least" */
    private static void oneStatementAtLeast() {
        fault("", -1000);
        answer("m00;", 1);
        for (String s : STATEMENTS) {
            answer(FIRST + s, 4);
        }
        answer("m00;".repeat(5) + "w00;".repeat(5) + "s10;".repeat(15), 25);
    }

    /** "the place of the first byte with which no VALLEY can go on (the end, if something lacks)" */
    private static void theEndIfSomethingLacks() {
        for (String s : STATEMENTS) {
            for (int n = 1; n < s.length(); n++) {
                int place = FIRST.length() + n;
                fault(FIRST + s.substring(0, n), -1000 - place);
            }
        }
    }

    private static void theFirstByteWithWhichNoneGoesOn() {
        for (String s : STATEMENTS) {
            for (int n = 0; n < s.length(); n++) {
                // signs just beside the digits, the letters, and the ";", and bytes that are no signs
                String bad = n == 0 ? "01;ln zxbkrtnv`{\u0000\u0080\u00ff" : n < s.length() - 1 ? "/:;ms -\u0000\u00b0" : ":<09m \u00bb";
                for (int i = 0; i < bad.length(); i++) {
                    char sign = bad.charAt(i);
                    // a letter would begin another statement there
                    if (n > 0 || "mwldcasy".indexOf(sign) < 0) {
                        String text = FIRST + s.substring(0, n) + sign + s.substring(n + 1);
                        fault(text, -1000 - (FIRST.length() + n));
                    }
                }
            }
        }
        for (int sign = 0; sign < 256; sign++) {
            if ("mwldcasy".indexOf(sign) < 0) {
                DUE.is("valley that begins with " + sign, withText((char) sign + "00;").valley(0), -1000);
            }
        }
    }

    /** "numbers in THE TEXT have just as many digits as told" */
    private static void justAsManyDigits() {
        fault("m0;", -1002);
        fault("m000;", -1003);
        fault("s5;", -1002);
        fault("s050;", -1003);
        fault("y1;", -1002);
        fault("y001;", -1003);
        fault("m00;w00;l0005;", -1013);
        fault("m00;w00;l000005;", -1014);
        fault("m00;d00;", -1007);
        fault("m00;d0000;", -1008);
    }

    /** "FAULT: kind 1 ..; else kind 2": wherever they stand. */
    private static void theFirstKindAheadOfTheSecond() {
        fault("m60;m0", -1006);
        fault("c00;y61;x", -1008);
        fault("m60;m00", -1007);
        fault("m60;m00;", -2000);
    }

    /** "a number out of range, no such ONE": on both sides of each edge. */
    private static void numbersOutOfRange() {
        answer("m00;m59;w50;w09;", 4);
        for (String bad : new String[] {"m60;", "m69;", "m90;", "w60;", "w99;"}) {
            fault("s10;" + bad, -2004);
        }
        String two = "m00;m00;w00;w00;w00;";
        answer(two + "l01299;l12100;l00000;l10000;", 9);
        for (String bad : new String[] {"l20000;", "l90000;", "l02010;", "l09010;", "l00310;", "l00910;", "l13010;", "l10210;"}) {
            fault(two + bad, -2020);
        }
        answer(two + "d001;d010;d120;d102;d111;", 10);
        for (String bad : new String[] {"d200;", "d900;", "d020;", "d002;", "d130;", "d103;", "d022;"}) {
            fault(two + bad, -2020);
        }
        answer(two + "c00;c12;", 7);
        for (String bad : new String[] {"c20;", "c03;", "c90;", "c09;"}) {
            fault(two + bad, -2020);
        }
        answer("a00;a52;a02;a50;", 4);
        for (String bad : new String[] {"a60;", "a90;", "a03;", "a09;", "a53;"}) {
            fault("s10;" + bad, -2004);
        }
        answer("s00;s99;", 2);
        answer("y01;y60;", 2);
        for (String bad : new String[] {"y00;", "y61;", "y99;"}) {
            fault("s10;" + bad, -2004);
        }
        fault("l00010;", -2000);
        fault("d000;", -2000);
        fault("c00;", -2000);
    }

    /** "a COUPLE twice or of one that is BOUND, DAY above 999, no room" */
    private static void coupleDayAndRoom() {
        String two = "m00;m00;w00;w00;";
        fault(two + "c00;c00;", -2020);
        fault(two + "c00;y06;c00;", -2024);
        fault(two + "c00;y06;c01;", -2024);
        fault(two + "c00;y06;c10;", -2024);
        answer(two + "c00;y06;c11;", 7);
        answer(two + "c00;y05;c01;", 7);
        // man 1 and woman 0 slip, so they are bound, and man 0 is not
        fault(two + "d001;s00;c00;y01;c11;", -2033);
        fault(two + "d001;s00;c00;y01;c10;", -2033);
        answer(two + "d001;s00;c00;y01;c01;", 9);
        answer("y60;".repeat(16) + "y39;", 17);
        fault("y60;".repeat(16) + "y40;", -2064);
        EngagedByDeputy late = withText("y60;".repeat(16) + "y38;");
        late.valley(0);
        Rows.text(late, 0, "y02;");
        DUE.is("day 998 and 2", late.valley(0), -2000);
        Rows.text(late, 0, "y01;");
        DUE.is("day 998 and 1", late.valley(0), 1);
        DUE.is("day 999", late.count(3), 999);
        DUE.is("day 999 and 1", late.valley(0), -2000);
        for (String letter : new String[] {"m00;", "w00;"}) {
            answer(letter.repeat(5), 5);
            fault(letter.repeat(6), -2020);
        }
        answer(two + "c00;c01;c10;c11;", 8);
        fault(two + "m00;c00;c01;c10;c11;c20;", -2036);
    }

    /** "Without FAULT all of it comes, with one nothing." */
    private static void allOrNothing() {
        String all = "m37;w42;m11;w28;l01155;l10077;d001;d110;c00;a32;s25;y03;";
        fault(all + "y00;", -2056);
        fault(all + "y0", -1058);
        EngagedByDeputy x = withText(all);
        DUE.is("twelve statements", x.valley(0), 12);
        int[] due = {2, 2, 1, 3, 25, 1, 0, 0};
        for (int what = 0; what < due.length; what++) {
            DUE.is("count(" + what + ")", x.count(what), due[what]);
        }
        DUE.is("man 0 is jealous", x.one(0, 0, 0), 3);
        DUE.is("with 7", x.one(0, 0, 1), 7);
        DUE.is("woman 1 is cool", x.one(1, 1, 0), 2);
        DUE.is("with 8", x.one(1, 1, 1), 8);
        DUE.is("man 0's deputy", x.one(0, 0, 2), 1);
        DUE.is("woman 1's deputy", x.one(1, 1, 2), 0);
        // man 1, warm, does three deeds with vain woman 0: 5, and 7, more each time
        DUE.is("man 1 likes woman 0", x.likes(0, 1, 0), 25);
        DUE.is("woman 0 likes man 1", x.likes(1, 0, 1), 31);
        DUE.is("man 1 likes woman 1 as told", x.likes(0, 1, 1), 55);
        // he sulks by 7 on each day, she by twice 2 over nobody: man 1 is not her own one
        DUE.is("man 0 likes woman 0 no more", x.likes(0, 0, 0), 0);
        DUE.is("woman 0 likes man 0 as told", x.likes(1, 0, 0), 77);
        DUE.is("deed 3", x.who(3, 2), 2);
        DUE.is("three deeds", x.about(0, 3), 3);
    }

    /** "STATEMENTS are tried one behind the other, each on what those ahead of it made" */
    private static void eachOnWhatIsAhead() {
        fault("l00010;m00;w00;", -2000);
        answer("m00;w00;l00010;", 3);
        fault("m00;d001;m00;", -2004);
        answer("m00;m00;d001;", 3);
        fault("m00;c00;w00;", -2004);
        fault("m60;y61;", -2000);
        fault("m00;y61;m60;", -2004);
        // likes told behind days stand, those ahead of them grow
        EngagedByDeputy x = Rows.told("m00;w00;c00;l00020;y02;l10020;");
        DUE.is("ahead of two days", x.likes(0, 0, 0), 26);
        DUE.is("behind them", x.likes(1, 0, 0), 20);
        // WHO told behind a day is for the deeds to come
        EngagedByDeputy y = Rows.told("m00;m00;w00;d001;c00;y01;a10;y01;");
        DUE.is("deed 0 by the deputy", y.likes(0, 1, 0), 13);
        DUE.is("deed 1 by himself", y.likes(0, 0, 0), 13);
        EngagedByDeputy z = Rows.told("m00;m00;w00;s12;d001;c00;y01;", "s99;");
        DUE.is("the slip was 12 in that day", z.about(0, 2), 2);
        EngagedByDeputy itself = Rows.told("m00;m00;d001;", "d000;");
        DUE.is("itself: none then", itself.one(0, 0, 2), -4);
    }

    /** "The ROW of a text .. stay there" */
    private static void theRowStays() {
        for (String text : new String[] {"m00;w00;c00;", "m00;w0", "m60;"}) {
            EngagedByDeputy x = withText(text);
            x.valley(0);
            for (int i = 0; i < text.length(); i++) {
                DUE.is("byte " + i + " of '" + text + "'", x.element(0, i), text.charAt(i));
            }
        }
        EngagedByDeputy x = withText("m00;");
        for (int k = 1; k <= 5; k++) {
            DUE.is("it comes again", x.valley(0), 1);
            DUE.is("men", x.count(0), k);
        }
        DUE.is("till there is no room", x.valley(0), -2000);
        EngagedByDeputy seven = new EngagedByDeputy();
        Rows.text(seven, 7, "w48;");
        DUE.is("in shelf 7", seven.valley(7), 1);
    }

    public static void main(String[] args) {
        oneStatementAtLeast();
        theEndIfSomethingLacks();
        theFirstByteWithWhichNoneGoesOn();
        justAsManyDigits();
        theFirstKindAheadOfTheSecond();
        numbersOutOfRange();
        coupleDayAndRoom();
        allOrNothing();
        eachOnWhatIsAhead();
        theRowStays();
        DUE.end();
    }
}
