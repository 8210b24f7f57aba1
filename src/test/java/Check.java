/** Counts what is as due and tells what is not. */
final class Check {
    interface Call {
        long answer();
    }

    private static int passed = 0;
    private static int failed = 0;
    private static String about = "";

    private Check() {
    }

    /** Runs the test of one sentence of the document; what it complains of is told with its promise and its words. */
    static void sentence(String promise, String words, Runnable test) {
        about = promise + ", \"" + words + "\": ";
        int before = passed + failed;
        try {
            test.run();
        } catch (RuntimeException e) {
            note(false, "the test threw " + e);
        }
        note(passed + failed > before, "the test checks nothing");
        about = "";
    }

    static void same(String what, long got, long due) {
        note(got == due, what + " answered " + got + ", due is " + due);
    }

    static void same(String what, String got, String due) {
        note(got.equals(due), what + " answered " + got + ", due is " + due);
    }

    static void yes(String what, boolean holds) {
        note(holds, what + " does not hold");
    }

    static void no(String what, boolean holds) {
        note(!holds, what + " holds");
    }

    static void refused(String what, Class<? extends RuntimeException> due, Call call) {
        same(what, told(call), due.getSimpleName());
    }

    /** What a call answers, or the name of what it throws. */
    static String told(Call call) {
        try {
            return Long.toString(call.answer());
        } catch (RuntimeException e) {
            return e.getClass().getSimpleName();
        }
    }

    /** Ends the test program with what was counted. */
    static void end(String name) {
        System.out.println(name + ": " + passed + " checks hold, " + failed + " do not");
        if (failed > 0 || passed == 0) {
            System.exit(1);
        }
    }

    private static void note(boolean holds, String complaint) {
        if (holds) {
            passed++;
        } else {
            failed++;
            System.out.println("  " + about + complaint);
        }
    }
}
