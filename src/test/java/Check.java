/** Counts what is as due, and tells what is not. */
final class Check {
    /** A call that may throw. */
    interface Call {
        Object answer();
    }

    private static int right;
    private static int wrong;
    private static String part = "";

    private Check() {
    }

    static void begin(String name) {
        part = name;
    }

    static void due(String call, Object got, Object want) {
        if (want.equals(got)) {
            right++;
            return;
        }
        wrong++;
        System.out.println(part + ": " + call + " answered " + got + ", due is " + want);
    }

    static void throwing(String call, Class<? extends RuntimeException> want, Call it) {
        due(call, answerOf(it), "throws " + want.getSimpleName());
    }

    /** The answer, or the name of what was thrown; what the machine throws is told as such. */
    static Object answerOf(Call it) {
        try {
            return it.answer();
        } catch (RuntimeException e) {
            return nameOf(e);
        }
    }

    static String nameOf(Throwable e) {
        StackTraceElement[] trace = e.getStackTrace();
        boolean fromFile = trace.length > 0 && trace[0].getClassName().startsWith("PaneStreet");
        boolean written = fromFile && e.getMessage() != null && !e.getMessage().contains("out of bounds");
        return "throws " + e.getClass().getSimpleName() + (written ? "" : " by the machine: " + e);
    }

    static void feed(PaneStreet x, String text) {
        int[] bytes = new int[text.length()];
        for (int i = 0; i < bytes.length; i++) {
            bytes[i] = text.charAt(i);
        }
        feed(x, bytes);
    }

    /** Puts these bytes on an empty tape. */
    static void feed(PaneStreet x, int... bytes) {
        x.end(0);
        for (int[] n : fives(bytes)) {
            x.feed(n[0], n[1], n[2], n[3], n[4]);
        }
        x.end(bytes.length);
    }

    /** The numbers to be fed for some bytes, five with each feed. */
    static int[][] fives(int... bytes) {
        int[][] fives = new int[(bytes.length + 19) / 20][5];
        for (int i = 0; i < bytes.length; i++) {
            fives[i / 20][i % 20 / 4] |= bytes[i] << 24 - 8 * (i % 4);
        }
        return fives;
    }

    static PaneStreet streetOf(String text) {
        PaneStreet x = new PaneStreet();
        feed(x, text);
        x.street();
        return x;
    }

    static PaneStreet streetOf(String text, String law) {
        PaneStreet x = streetOf(text);
        feed(x, law);
        x.law();
        return x;
    }

    /** Ends a test's run: its last line, and exit code 1, if something was wrong. */
    static void end() {
        System.out.println(right + " passed, " + wrong + " failed");
        if (wrong != 0) {
            System.exit(1);
        }
    }
}
