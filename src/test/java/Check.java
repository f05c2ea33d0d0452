/** Compares answers with those that are due, and ends a test with exit code 1 when one was wrong. */
final class Check {
    private static int wrong = 0;
    private static int compared = 0;

    private Check() {
    }

    static void same(String what, Object due, Object got) {
        compared++;
        if (!due.equals(got)) {
            wrong++;
            System.out.println(what + " answered\n" + got + "\ndue is\n" + due);
        }
    }

    /** The simple name of what the call throws, or "nothing". */
    static String thrown(Runnable call) {
        try {
            call.run();
            return "nothing";
        } catch (RuntimeException e) {
            return e.getClass().getSimpleName();
        }
    }

    static void end() {
        System.out.println(compared + " answers compared, " + wrong + " wrong");
        if (wrong != 0) {
            System.exit(1);
        }
    }
}
