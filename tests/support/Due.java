/** Counts the answers that are not as due, and says which they are. */
public final class Due {
    private int wrong;
    private int asked;

    public void is(String call, long got, long want) {
        asked++;
        if (got != want) {
            wrong++;
            System.out.println(call + " answered " + got + ", due is " + want);
        }
    }

    public void holds(String what, boolean is) {
        asked++;
        if (!is) {
            wrong++;
            System.out.println("not so: " + what);
        }
    }

    /** Ends the test: exit code 1 if an answer was not as due. */
    public void end() {
        if (wrong != 0 || asked == 0) {
            System.out.println(wrong + " of " + asked + " answers are not as due");
            System.exit(1);
        }
        System.out.println("all " + asked + " answers are as due");
    }
}
