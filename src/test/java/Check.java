/** Counts the answers that are not as due, and ends the test with 1 if there was one. */
final class Check {
    interface Call {
        double answer();
    }

    private static final int MOST_SHOWN = 20;
    private static int checked = 0;
    private static int wrong = 0;

    private Check() {
    }

    static void due(String what, long want, long got) {
        checked++;
        if (got != want) {
            tell(what + " answered " + got + ", due is " + want);
        }
    }

    static void due(String what, double want, double got) {
        checked++;
        if (Double.compare(got, want) != 0) {
            tell(what + " answered " + got + ", due is " + want);
        }
    }

    static void due(String what, String want, String got) {
        checked++;
        if (!got.equals(want)) {
            tell(what + " answered " + got + ", due is " + want);
        }
    }

    /** The call throws exactly this exception, and its object is as it was. */
    static void refuses(String what, HedgeGliders object, Class<? extends Exception> want, Call call) {
        long before = object.digest();
        due(what, "throws " + want.getSimpleName(), outcome(call));
        due(what + " changes nothing: digest", before, object.digest());
    }

    static String outcome(Call call) {
        try {
            double answer = call.answer();
            return answer == (long) answer ? "" + (long) answer : "" + answer;
        } catch (RuntimeException e) {
            return "throws " + e.getClass().getSimpleName();
        }
    }

    private static void tell(String line) {
        wrong++;
        if (wrong <= MOST_SHOWN) {
            System.out.println(line);
        }
    }

    static void end() {
        System.out.println(checked + " checked, " + wrong + " wrong");
        if (wrong > 0 || checked == 0) {
            System.exit(1);
        }
    }
}
