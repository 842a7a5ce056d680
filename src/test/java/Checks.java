/** Counts what is not as due, prints it, and ends the program with 1 if there was any. */
final class Checks {
    private final String about;
    private int checks = 0;
    private int wrong = 0;

    Checks(String about) {
        this.about = about;
    }

    void due(String call, Object got, Object want) {
        checks++;
        if (!String.valueOf(got).equals(String.valueOf(want))) {
            wrong++;
            System.out.println(about + ": " + call + " answered " + got + ", due is " + want);
        }
    }

    void end() {
        System.out.println(about + ": " + checks + " checks, " + wrong + " wrong");
        if (checks == 0 || wrong != 0) {
            System.exit(1);
        }
    }

    /** What share answers, or the name of the very class that it throws. */
    static String share(EntropyBounds x, int s) {
        try {
            return String.valueOf(x.share(s));
        } catch (RuntimeException e) {
            return e.getClass().getSimpleName();
        }
    }

    /** What symbol answers, or the name of the very class that it throws. */
    static String symbol(EntropyBounds x, int i) {
        try {
            return String.valueOf(x.symbol(i));
        } catch (RuntimeException e) {
            return e.getClass().getSimpleName();
        }
    }
}
