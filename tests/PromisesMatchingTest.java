/** Promises 23 to 27: who leaves, who stays. */
public final class PromisesMatchingTest {
    private static final Due DUE = new Due();

    /** Men and women, all STEADY, men's likes for women row by row, then women's for men. */
    private static EngagedByDeputy valley(int[][] his, int[][] hers) {
        EngagedByDeputy x = new EngagedByDeputy();
        x.keep(7, 1, 0, 0);
        for (int m = 0; m < his.length; m++) {
            x.comes(7, 0);
        }
        for (int w = 0; w < hers.length; w++) {
            x.comes(7, 1);
        }
        for (int m = 0; m < his.length; m++) {
            for (int w = 0; w < hers.length; w++) {
                x.like(0, m, w, his[m][w]);
                x.like(1, w, m, hers[w][m]);
            }
        }
        return x;
    }

    /** Each man likes another woman most, and each of these likes him least: the old example with three stable ways. */
    private static EngagedByDeputy roundAbout() {
        return valley(new int[][] {{3, 2, 1}, {1, 3, 2}, {2, 1, 3}}, new int[][] {{1, 3, 2}, {2, 1, 3}, {3, 2, 1}});
    }

    private static void leave(EngagedByDeputy x, int answer, int... wives) {
        for (int sort = 0; sort < 3; sort++) {
            Rows.numbers(x, 0, sort, wives);
            DUE.is("leave, sort " + sort, x.leave(0), answer);
        }
    }

    private static void promise23Leave() {
        EngagedByDeputy x = roundAbout();
        leave(x, -4, 0, 1, 2);
        leave(x, -4, 1, 2, 0);
        leave(x, -4, 2, 0, 1);
        leave(x, 20, 0, 2, 1);
        leave(x, 0, -1, -1, -1);
        leave(x, 1, -1, 2, 0);
        leave(x, -13, 0, 1);
        leave(x, -13, 0, 1, 2, -1);
        leave(x, -13, 0, 1, 3);
        leave(x, -13, 0, -2, 2);
        leave(x, -13, 0, 1, 0);
        leave(x, -13, 0, 1, 127);
        leave(x, -13, -128, 1, 2);
        DUE.is("no such shelf", x.leave(8), -1);
        DUE.is("shelf -1", x.leave(-1), -1);
        DUE.is("nothing", x.leave(1), -11);
        DUE.is("a one", x.leave(7), -12);
    }

    private static void promise23LikesAsMuchAndNothing() {
        EngagedByDeputy x = valley(new int[][] {{0, 0}, {5, 5}}, new int[][] {{0, 0}, {0, 0}});
        // with nobody 0 will do; who is liked as much is not liked more
        leave(x, 0, -1, -1);
        leave(x, -4, 0, 1);
        leave(x, -4, 1, 0);
        leave(x, 1, -1, 0);
        leave(x, 11, 0, -1);
        EngagedByDeputy nobody = new EngagedByDeputy();
        leave(nobody, -4);
        leave(nobody, -13, -1);
        // a number beyond an int in a row of longs can't be put, but as many as men are asked for first
        leave(valley(new int[1][0], new int[0][1]), -4, -1);
        leave(valley(new int[1][0], new int[0][1]), -13, 0);
    }

    private static void promise24Stable() {
        EngagedByDeputy x = roundAbout();
        for (int m = 0; m < 3; m++) {
            DUE.is("men ask: each has whom he likes most, man " + m, x.stable(m), m);
        }
        EngagedByDeputy alike = valley(new int[][] {{7, 7}, {7, 7}, {7, 7}}, new int[][] {{1, 1, 1}, {1, 1, 2}});
        // all ask woman 0 first, who keeps man 0; of 1 and 2 woman 1 likes 2 more
        DUE.is("man 0", alike.stable(0), 0);
        DUE.is("man 1", alike.stable(1), -4);
        DUE.is("man 2", alike.stable(2), 1);
        DUE.is("no such man", alike.stable(3), -1);
        DUE.is("man -1", alike.stable(-1), -1);
        // man 0 is sent away by woman 0 only when man 2, sent away by woman 1, asks her
        EngagedByDeputy chain = valley(new int[][] {{9, 1, 5}, {2, 8, 1}, {5, 9, 1}},
            new int[][] {{1, 2, 3}, {1, 9, 3}, {1, 1, 1}});
        DUE.is("man 0 in the end", chain.stable(0), 2);
        DUE.is("man 1 in the end", chain.stable(1), 1);
        DUE.is("man 2 in the end", chain.stable(2), 0);
        DUE.is("without women", valley(new int[1][0], new int[0][1]).stable(0), -4);
    }

    private static void promise25AllStable() {
        DUE.is("three stable ways", roundAbout().allStable(), 3);
        DUE.is("nobody: one matching without twos", new EngagedByDeputy().allStable(), 1);
        int[][] alike = {{10, 10, 10, 10, 10}, {10, 10, 10, 10, 10}, {10, 10, 10, 10, 10}, {10, 10, 10, 10, 10},
            {10, 10, 10, 10, 10}};
        DUE.is("five and five, all alike", valley(alike, alike).allStable(), 120);
        DUE.is("five men, two women, all alike", valley(alike, new int[][] {alike[0], alike[1]}).allStable(), 20);
        DUE.is("two men, five women, all alike", valley(new int[][] {alike[0], alike[1]}, alike).allStable(), 20);
        EngagedByDeputy x = valley(new int[][] {{5}, {6}}, new int[][] {{1, 2}});
        DUE.is("she likes one of two more", x.allStable(), 1);
    }

    private static void promise26And27Most() {
        EngagedByDeputy x = roundAbout();
        DUE.is("all three ways have 12", x.most(), 12);
        for (int m = 0; m < 3; m++) {
            DUE.is("the first of them, man " + m, x.mostOf(m), m);
        }
        x.like(1, 2, 1, 9);
        // (0, 2, 1): 3 and 1, 2 and 9, 1 and 3; (1, 2, 0): 2 and 2, 2 and 9, 2 and 2
        DUE.is("two ways have more", x.most(), 19);
        DUE.is("man 0", x.mostOf(0), 0);
        DUE.is("man 1", x.mostOf(1), 2);
        DUE.is("man 2", x.mostOf(2), 1);
        DUE.is("no such man", x.mostOf(3), -1);
        DUE.is("man -1", x.mostOf(-1), -1);
        EngagedByDeputy y = valley(new int[][] {{1}, {1}, {2}}, new int[][] {{3, 4, 3}});
        DUE.is("one woman for three", y.most(), 5);
        DUE.is("nobody is behind all women: man 1 can't be first", y.mostOf(0), -4);
        DUE.is("man 1 has her by the first", y.mostOf(1), 0);
        DUE.is("man 2 has her only by a later one", y.mostOf(2), -4);
        DUE.is("nobody", new EngagedByDeputy().most(), 0);
        EngagedByDeputy zero = valley(new int[][] {{0, 0}}, new int[][] {{0}, {0}});
        DUE.is("no likes at all", zero.most(), 0);
        DUE.is("but as many twos as there can be", zero.mostOf(0), 0);
    }

    public static void main(String[] args) {
        promise23Leave();
        promise23LikesAsMuchAndNothing();
        promise24Stable();
        promise25AllStable();
        promise26And27Most();
        DUE.end();
    }
}
