/** Counts what is as due, and tells what is not. */
final class Check {
    /** A call that may throw. */
    interface Call {
        Object answer();
    }

    /** A call with one number that is to be tried. */
    interface NumberCall {
        Object answer(int n);
    }

    private static int right;
    private static int wrong;
    private static String part = "";

    private Check() {
    }

    static void begin(String name) {
        part = name;
    }

    /** What follows stands for these words of the document, which these promises rest on. */
    static void sentence(String promises, String words) {
        part = "promise " + promises + ", '" + words + "'";
        due("these words are the document's", Document.says(promises, words), true);
    }

    static void due(String call, Object got, Object want) {
        if (want.equals(got)) {
            right++;
            return;
        }
        wrong++;
        System.out.println(part + ": " + call + " answered " + got + ", due is " + want);
    }

    static void throwing(String call, Class<? extends RuntimeException> want, Call it) {
        due(call, answerOf(it), "throws " + want.getSimpleName());
    }

    /** The answer, or the name of what was thrown; what the machine throws is told as such. */
    static Object answerOf(Call it) {
        try {
            return it.answer();
        } catch (RuntimeException e) {
            return nameOf(e);
        }
    }

    static String nameOf(Throwable e) {
        StackTraceElement[] trace = e.getStackTrace();
        boolean fromFile = trace.length > 0 && trace[0].getClassName().startsWith("PaneStreet");
        return "throws " + e.getClass().getSimpleName() + (fromFile ? "" : " by the machine: " + e);
    }

    private static void answering(String call, Call it) {
        Object got = answerOf(it);
        boolean isThrown = got instanceof String && ((String) got).startsWith("throws");
        due(call + " answers", isThrown ? got : "answers", "answers");
    }

    /** A number from least to most is taken; those beside them, and the farthest ones, are refused. */
    static void bounds(String call, int least, int most, Class<? extends RuntimeException> refusal, NumberCall it) {
        for (int n : new int[] {Integer.MIN_VALUE, least - 1, most + 1, Integer.MAX_VALUE}) {
            throwing(call + " with " + n, refusal, () -> it.answer(n));
        }
        for (int n : new int[] {least, Math.min(least + 1, most), Math.max(least, most - 1), most}) {
            answering(call + " with " + n, () -> it.answer(n));
        }
    }

    /** The numbers of so many panes or walkers are taken, those beside them are none; 32 would be 0 as a bit. */
    static void indexes(String call, int count, NumberCall it) {
        bounds(call, 0, count - 1, IndexOutOfBoundsException.class, it);
        throwing(call + " with 32", IndexOutOfBoundsException.class, () -> it.answer(32));
    }

    static Object street(PaneStreet x, String text) {
        feed(x, text);
        return answerOf(x::street);
    }

    static Object law(PaneStreet x, String text) {
        feed(x, text);
        return answerOf(x::law);
    }

    static void feed(PaneStreet x, String text) {
        int[] bytes = new int[text.length()];
        for (int i = 0; i < bytes.length; i++) {
            bytes[i] = text.charAt(i);
        }
        feed(x, bytes);
    }

    /** Puts these bytes on an empty tape. */
    static void feed(PaneStreet x, int... bytes) {
        x.end(0);
        for (int[] n : fives(bytes)) {
            x.feed(n[0], n[1], n[2], n[3], n[4]);
        }
        x.end(bytes.length);
    }

    /** The numbers to be fed for some bytes, five with each feed. */
    static int[][] fives(int... bytes) {
        int[][] fives = new int[(bytes.length + 19) / 20][5];
        for (int i = 0; i < bytes.length; i++) {
            fives[i / 20][i % 20 / 4] |= bytes[i] << 24 - 8 * (i % 4);
        }
        return fives;
    }

    static PaneStreet streetOf(String text) {
        PaneStreet x = new PaneStreet();
        feed(x, text);
        x.street();
        return x;
    }

    static PaneStreet streetOf(String text, String law) {
        PaneStreet x = streetOf(text);
        feed(x, law);
        x.law();
        return x;
    }

    /** Ends a test's run: its last line, and exit code 1, if something was wrong. */
    static void end() {
        System.out.println(right + " passed, " + wrong + " failed");
        if (wrong != 0) {
            System.exit(1);
        }
    }
}
