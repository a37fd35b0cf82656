/** Puts texts and numbers into rows on shelves. */
public final class Rows {
    private Rows() {
    }

    public static void text(EngagedByDeputy x, int d, String text) {
        x.row(d, 0, text.length());
        for (int i = 0; i < text.length(); i++) {
            x.put(d, i, text.charAt(i));
        }
    }

    public static void numbers(EngagedByDeputy x, int d, int sort, int... numbers) {
        x.row(d, sort, numbers.length);
        for (int i = 0; i < numbers.length; i++) {
            x.put(d, i, numbers[i]);
        }
    }

    /** A new object into which a text came. */
    public static EngagedByDeputy told(String... texts) {
        EngagedByDeputy x = new EngagedByDeputy();
        for (String text : texts) {
            text(x, 0, text);
            int answer = x.valley(0);
            if (answer < 0) {
                throw new IllegalStateException("the text " + text + " has fault " + answer);
            }
        }
        return x;
    }
}
