/** Compares answers and refusals with those that are due, and ends a test. */
final class Due {
    interface Call {
        long answer();
    }

    private final String test;
    private String sentence = "";
    private int wrong = 0;
    private int asked = 0;

    Due(String test) {
        this.test = test;
    }

    /** The sentence of the document that the next calls are asked by. */
    void by(String words) {
        sentence = "(" + words + ") ";
    }

    static String outcome(Call call) {
        try {
            return String.valueOf(call.answer());
        } catch (RuntimeException e) {
            return e.getClass().getName();
        }
    }

    void is(String what, long want, Call call) {
        same(what, String.valueOf(want), outcome(call));
    }

    void refuses(String what, Class<? extends RuntimeException> kind, Call call) {
        same(what, kind.getName(), outcome(call));
    }

    void same(String what, String want, String got) {
        asked++;
        if (!want.equals(got)) {
            wrong++;
            System.out.println(test + ": " + sentence + what + " answered " + got + ", due is " + want);
        }
    }

    void end() {
        System.out.println(test + ": " + asked + " asked, " + wrong + " wrong");
        if (wrong != 0 || asked == 0) {
            System.exit(1);
        }
    }
}
