import java.util.function.Supplier;
import java.util.function.ToIntFunction;

/** All that can be seen of an object by its calls, as one text: equal texts, equal states (but for THE IMAGE). */
public final class Sight {
    private Sight() {
    }

    public static String of(EngagedByDeputy x) {
        StringBuilder seen = new StringBuilder();
        for (int what = 0; what < 5; what++) {
            seen.append(x.count(what)).append(' ');
        }
        for (int side = 0; side < 2; side++) {
            for (int k = 0; k < x.count(side); k++) {
                seen.append('|');
                for (int what = 0; what < 5; what++) {
                    seen.append(x.one(side, k, what)).append(' ');
                }
                for (int j = 0; j < x.count(1 - side); j++) {
                    seen.append(x.likes(side, k, j)).append(' ');
                }
            }
        }
        for (int couple = 0; couple < x.count(2); couple++) {
            seen.append('|');
            for (int what = 0; what < 4; what++) {
                seen.append(x.about(couple, what)).append(' ');
            }
        }
        seen.append('|').append(whos(x));
        for (int d = 0; d < 8; d++) {
            seen.append('|').append(shelf(x, d));
        }
        return seen.toString();
    }

    private static String whos(EngagedByDeputy x) {
        StringBuilder seen = new StringBuilder();
        for (int deed = 0; deed < 6; deed++) {
            int w = x.who(deed, 0);
            x.who(deed, w);
            seen.append(w);
        }
        return seen.toString();
    }

    private static String shelf(EngagedByDeputy x, int d) {
        int cost = x.cost(d);
        if (cost != -12) {
            // the failure tells kinds apart that cost as much
            return cost + "/" + x.toss(d);
        }
        StringBuilder seen = new StringBuilder("row");
        for (int i = 0; i < 100; i++) {
            try {
                seen.append(' ').append(x.element(d, i));
            } catch (IllegalStateException e) {
                break;
            }
        }
        return seen.toString();
    }

    /** A call whose answer is due, and which leaves all that can be seen as it was: one on a new object each time. */
    public static void unchanged(Due due, String call, Supplier<EngagedByDeputy> made, ToIntFunction<EngagedByDeputy> asked,
            int want) {
        EngagedByDeputy x = made.get();
        String before = of(x);
        due.is(call, asked.applyAsInt(x), want);
        String after = of(x);
        due.holds(call + " changed nothing: " + before + " / " + after, before.equals(after));
    }
}
