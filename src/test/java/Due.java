/** Counts answers that are not as due; end() leaves with exit code 1 if there was one. */
final class Due {
    private int wrong = 0;
    private int asked = 0;
    private final String about;

    Due(String about) {
        this.about = about;
    }

    void is(String call, long got, long want) {
        asked++;
        if (got != want) {
            wrong++;
            if (wrong <= 50) {
                System.out.println(call + " answered " + got + ", due is " + want);
            }
        }
    }

    void holds(String what, boolean so) {
        is(what, so ? 1 : 0, 1);
    }

    void end() {
        System.out.println(about + ": " + asked + " answers, " + wrong + " not as due");
        if (wrong != 0) {
            System.exit(1);
        }
    }
}
