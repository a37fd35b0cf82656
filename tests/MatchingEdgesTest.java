/** Promises 23 to 27, sentence by sentence: who would leave, ties, nobody, as many twos as the smaller side has ones. */
public final class MatchingEdgesTest {
    private static final Due DUE = new Due();

    private static final int NONE = -4;

    /** Men and women, all STEADY, who like each other as much as this. */
    private static EngagedByDeputy alike(int men, int women, int likes) {
        EngagedByDeputy x = new EngagedByDeputy();
        x.keep(7, 1, 0, 0);
        for (int m = 0; m < men; m++) {
            x.comes(7, 0);
        }
        for (int w = 0; w < women; w++) {
            x.comes(7, 1);
        }
        for (int m = 0; m < men; m++) {
            for (int w = 0; w < women; w++) {
                both(x, m, w, likes, likes);
            }
        }
        return x;
    }

    private static void both(EngagedByDeputy x, int man, int woman, int his, int hers) {
        x.like(0, man, woman, his);
        x.like(1, woman, man, hers);
    }

    private static int leave(EngagedByDeputy x, int... wives) {
        Rows.numbers(x, 0, 1, wives);
        return x.leave(0);
    }

    /** "who like each other more than whom they have there": both, and more, not as much. */
    private static void bothMustLikeMore() {
        // (0, 0) and (1, 1) are there; man 0 and woman 1 look at each other
        int[][] likes = {{11, 11, 1}, {10, 11, NONE}, {11, 10, NONE}, {10, 10, NONE}, {9, 99, NONE}, {99, 9, NONE}};
        for (int[] l : likes) {
            EngagedByDeputy x = alike(2, 2, 10);
            both(x, 0, 1, l[0], l[1]);
            DUE.is("he likes her " + l[0] + ", she him " + l[1], leave(x, 0, 1), l[2]);
        }
        EngagedByDeputy x = alike(2, 2, 10);
        both(x, 0, 0, 99, 99);
        DUE.is("who have each other don't leave", leave(x, 0, 1), NONE);
    }

    /** "(with nobody: 0 and more will do)" */
    private static void withNobodyNothingWillDo() {
        EngagedByDeputy x = alike(2, 2, 0);
        DUE.is("nobody has anybody", leave(x, -1, -1), 0);
        DUE.is("he has nobody, she has", leave(x, 0, -1), 11);
        DUE.is("he with nobody likes her 0, but she has one as dear", leave(alike(2, 1, 0), 0, -1), NONE);
        EngagedByDeputy y = alike(2, 1, 0);
        y.like(1, 0, 1, 1);
        DUE.is("she likes him 1 more", leave(y, 0, -1), 10);
        EngagedByDeputy z = alike(1, 2, 0);
        DUE.is("a woman with nobody, he has one as dear", leave(z, 0), NONE);
        z.like(0, 0, 1, 1);
        DUE.is("he likes her 1 more", leave(z, 0), 1);
    }

    /** "the first two (man, then woman; 10 times him and her)" */
    private static void theFirstTwo() {
        EngagedByDeputy x = alike(5, 5, 50);
        DUE.is("all have one as dear", leave(x, 4, 3, 2, 1, 0), NONE);
        both(x, 4, 4, 51, 51);
        DUE.is("the last two", leave(x, 4, 3, 2, 1, 0), 44);
        both(x, 4, 1, 51, 51);
        DUE.is("an earlier woman", leave(x, 4, 3, 2, 1, 0), 41);
        both(x, 3, 4, 51, 51);
        DUE.is("an earlier man", leave(x, 4, 3, 2, 1, 0), 34);
        both(x, 0, 3, 51, 51);
        DUE.is("man 0", leave(x, 4, 3, 2, 1, 0), 3);
        both(x, 0, 0, 51, 51);
        DUE.is("man 0 and woman 0", leave(x, 4, 3, 2, 1, 0), 0);
    }

    /** "-13 (not as many numbers as men; no such woman, one twice)" */
    private static void rowsThatTellNoMatching() {
        EngagedByDeputy x = alike(3, 2, 10);
        int[][] bad = {{}, {0}, {0, 1}, {0, 1, -1, -1}, {0, 1, 2}, {2, 0, 1}, {0, 1, -2}, {-2, 0, 1}, {0, 0, 1}, {0, 1, 0},
            {1, -1, 1}, {0, 1, Integer.MAX_VALUE}, {0, Integer.MIN_VALUE, 1}};
        for (int[] wives : bad) {
            DUE.is("leave by " + java.util.Arrays.toString(wives), leave(x, wives), -13);
        }
        DUE.is("nobody twice is fine", leave(x, -1, 0, -1), 1);
        DUE.is("all are told", leave(x, -1, 0, 1), NONE);
        DUE.is("no men, no numbers", leave(alike(0, 2, 10)), NONE);
        DUE.is("no men, a number", leave(alike(0, 2, 10), -1), -13);
        DUE.is("no women: nobody", leave(alike(2, 0, 10), -1, -1), NONE);
        DUE.is("no women: woman 0", leave(alike(2, 0, 10), 0, -1), -13);
        EngagedByDeputy bytes = alike(1, 5, 10);
        Rows.numbers(bytes, 0, 0, 255);
        DUE.is("byte 255 is -1, nobody", bytes.leave(0), 0);
        Rows.numbers(bytes, 0, 0, 260);
        DUE.is("byte 260 is 4", bytes.leave(0), NONE);
        Rows.numbers(bytes, 0, 2, Integer.MIN_VALUE);
        DUE.is("a long", bytes.leave(0), -13);
    }

    /** "men ask by LIKES (the most first, of several the least number)" */
    private static void menAsk() {
        EngagedByDeputy x = alike(1, 3, 10);
        DUE.is("all alike: the least number", x.stable(0), 0);
        x.like(0, 0, 1, 11);
        x.like(0, 0, 2, 11);
        DUE.is("the least of the two liked most", x.stable(0), 1);
        x.like(0, 0, 2, 12);
        DUE.is("the most", x.stable(0), 2);
        x.like(0, 0, 2, 0);
        x.like(0, 0, 1, 0);
        x.like(0, 0, 0, 0);
        DUE.is("0 will do", x.stable(0), 0);
        EngagedByDeputy none = alike(2, 0, 10);
        DUE.is("without women", none.stable(1), NONE);
        EngagedByDeputy more = alike(5, 3, 10);
        int[] due = {0, 1, 2, NONE, NONE};
        for (int man = 0; man < 5; man++) {
            DUE.is("five men, three women, all alike: man " + man, more.stable(man), due[man]);
        }
    }

    /** "women keep whom they like more (of several the least number)" */
    private static void womenKeep() {
        // man 1 has woman 0 when man 0, sent away by woman 1, asks her
        int[][] likes = {{10, 10, 0}, {9, 10, NONE}, {11, 10, 0}};
        for (int[] l : likes) {
            EngagedByDeputy x = alike(3, 2, 10);
            both(x, 0, 1, 50, 1);
            both(x, 2, 1, 50, 60);
            both(x, 0, 0, 40, l[0]);
            both(x, 1, 0, 70, l[1]);
            both(x, 1, 1, 1, 2);
            both(x, 2, 0, 1, 2);
            DUE.is("man 0, whom she likes " + l[0], x.stable(0), l[2]);
            DUE.is("man 1, whom she likes " + l[1], x.stable(1), l[2] == 0 ? NONE : 0);
            DUE.is("man 2 has woman 1", x.stable(2), 1);
        }
        // man 2 is sent away by woman 0 for man 1; woman 1, who has man 0, keeps him all the same
        EngagedByDeputy kept = alike(3, 2, 10);
        both(kept, 0, 1, 50, 90);
        both(kept, 1, 1, 50, 10);
        both(kept, 1, 0, 40, 60);
        both(kept, 2, 0, 50, 20);
        both(kept, 2, 1, 40, 30);
        int[] due = {1, 0, NONE};
        for (int man = 0; man < 3; man++) {
            DUE.is("man " + man + " in the end", kept.stable(man), due[man]);
        }
        // of those who are as dear she keeps the least number
        EngagedByDeputy x = alike(5, 1, 10);
        DUE.is("the least number of five", x.stable(0), 0);
        for (int man = 1; man < 5; man++) {
            DUE.is("nobody for man " + man, x.stable(man), NONE);
        }
        x.like(1, 0, 4, 11);
        DUE.is("she likes man 4 more", x.stable(4), 0);
        DUE.is("man 0 has nobody then", x.stable(0), NONE);
        x.like(1, 0, 3, 11);
        DUE.is("man 3 as much as 4", x.stable(3), 0);
        DUE.is("man 4 no more", x.stable(4), NONE);
    }

    /** Every man but the last is sent away by every woman: as many askings as there can be. */
    private static void asLongAsItCanTake() {
        EngagedByDeputy x = alike(5, 5, 0);
        for (int m = 0; m < 5; m++) {
            for (int w = 0; w < 5; w++) {
                // all men like women 0, 1, .. less and less; all women like men 4, 3, .. less and less
                both(x, m, w, 90 - w, 10 + m);
            }
        }
        for (int m = 0; m < 5; m++) {
            DUE.is("man " + m + " in the end", x.stable(m), 4 - m);
        }
        DUE.is("there is no other", x.allStable(), 1);
    }

    /** "(as many twos as the smaller SIDE has ONES, nobody else)" */
    private static void asManyTwosAsTheSmallerSideHas() {
        // men of 0 .. 5, women of 0 .. 5, all alike: no two would leave, so all matchings count
        for (int men = 0; men <= 5; men++) {
            for (int women = 0; women <= 5; women++) {
                int many = 1;
                for (int k = 0; k < Math.min(men, women); k++) {
                    many *= Math.max(men, women) - k;
                }
                EngagedByDeputy x = alike(men, women, 7);
                String who = men + " men, " + women + " women, ";
                DUE.is(who + "all stable", x.allStable(), many);
                DUE.is(who + "all stable, asked again", x.allStable(), many);
                DUE.is(who + "most", x.most(), 14 * Math.min(men, women));
                DUE.is(who + "most, asked again", x.most(), 14 * Math.min(men, women));
                for (int man = 0; man < men; man++) {
                    // men by numbers, women rising, nobody behind all women
                    DUE.is(who + "most of " + man, x.mostOf(man), man < women ? man : NONE);
                }
                DUE.is(who + "no such man", x.mostOf(men), -1);
            }
        }
        DUE.is("with 0 likes as many", alike(3, 2, 0).allStable(), 6);
        DUE.is("the most there can be", alike(5, 5, 99).most(), 990);
    }

    /** "ALL STABLE: how many matchings .. that no two would LEAVE": those with nobody, too, would leave. */
    private static void allStable() {
        EngagedByDeputy x = alike(2, 1, 5);
        DUE.is("either has her", x.allStable(), 2);
        x.like(1, 0, 1, 6);
        DUE.is("she likes man 1 more, who has nobody", x.allStable(), 1);
        EngagedByDeputy y = alike(1, 2, 5);
        y.like(0, 0, 0, 6);
        DUE.is("he likes woman 0 more, who has nobody", y.allStable(), 1);
        EngagedByDeputy z = alike(2, 2, 5);
        both(z, 0, 0, 9, 1);
        both(z, 0, 1, 1, 9);
        both(z, 1, 1, 9, 1);
        both(z, 1, 0, 1, 9);
        DUE.is("men like best who likes them least", z.allStable(), 2);
        z.like(1, 0, 0, 9);
        DUE.is("women 0 as much: both still", z.allStable(), 2);
        z.like(1, 1, 1, 9);
        DUE.is("and woman 1", z.allStable(), 2);
        z.like(1, 1, 1, 10);
        z.like(1, 0, 0, 10);
        DUE.is("each other's best: one", z.allStable(), 1);
    }

    /** "with most LIKES of both together", "the first such (by men, women rising; nobody behind all women)" */
    private static void most() {
        EngagedByDeputy x = alike(2, 2, 10);
        x.like(0, 0, 1, 11);
        DUE.is("his likes count", x.most(), 41);
        DUE.is("man 0", x.mostOf(0), 1);
        DUE.is("man 1", x.mostOf(1), 0);
        x.like(1, 0, 0, 11);
        DUE.is("hers as much: the first", x.mostOf(0), 0);
        DUE.is("man 1 by the first", x.mostOf(1), 1);
        x.like(1, 1, 0, 11);
        DUE.is("hers more", x.most(), 42);
        DUE.is("man 0 by these", x.mostOf(0), 1);
        EngagedByDeputy one = alike(3, 1, 10);
        int[] due = {0, NONE, NONE};
        for (int man = 0; man < 3; man++) {
            DUE.is("nobody is behind all women: man " + man, one.mostOf(man), due[man]);
        }
        both(one, 2, 0, 10, 11);
        DUE.is("man 2 with most", one.mostOf(2), 0);
        DUE.is("man 0 with nobody", one.mostOf(0), NONE);
        EngagedByDeputy two = alike(1, 3, 0);
        DUE.is("no likes: yet a woman, the first", two.mostOf(0), 0);
        DUE.is("0 together", two.most(), 0);
        two.like(1, 2, 0, 1);
        DUE.is("the last woman", two.mostOf(0), 2);
        DUE.is("1 together", two.most(), 1);
        DUE.is("nobody", new EngagedByDeputy().most(), 0);
        DUE.is("men alone", alike(5, 0, 10).most(), 0);
        DUE.is("a man alone has nobody", alike(5, 0, 10).mostOf(4), NONE);
        DUE.is("women alone", alike(0, 5, 10).most(), 0);
        // as many twos as there can be, though two like each other 0 and 0
        EngagedByDeputy zero = alike(2, 2, 0);
        both(zero, 0, 1, 1, 0);
        DUE.is("man 1 has woman 0", zero.mostOf(1), 0);
    }

    /** Asked one behind the other on one object, as on new ones. */
    private static void eachAskingBeginsAnew() {
        EngagedByDeputy x = alike(3, 3, 10);
        both(x, 0, 2, 20, 20);
        for (int round = 0; round < 2; round++) {
            DUE.is("most", x.most(), 80);
            DUE.is("leave", leave(x, 0, 1, 2), 2);
            DUE.is("stable", x.stable(1), 0);
            DUE.is("all stable", x.allStable(), 2);
            DUE.is("most of", x.mostOf(0), 2);
        }
        both(x, 0, 2, 10, 10);
        DUE.is("most of, likes have changed", x.mostOf(0), 0);
        DUE.is("most", x.most(), 60);
        both(x, 0, 0, 30, 0);
        DUE.is("most of, with fewer men ahead of it", x.mostOf(1), 1);
    }

    public static void main(String[] args) {
        bothMustLikeMore();
        withNobodyNothingWillDo();
        theFirstTwo();
        rowsThatTellNoMatching();
        menAsk();
        womenKeep();
        asLongAsItCanTake();
        asManyTwosAsTheSmallerSideHas();
        allStable();
        most();
        eachAskingBeginsAnew();
        DUE.end();
    }
}
