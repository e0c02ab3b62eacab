/** What the tests that ask by hand share: a tender that is told, an answer that is due, and the count of both. */
abstract class Asking {
    static final int UNKNOWN = -1, BAD = -2, LATE = -3, FULL = -4, NONE = -9;
    static final int LOW = Integer.MIN_VALUE, HIGH = Integer.MAX_VALUE;

    private static String subject = "";
    private static int row = 0;
    private static int asked = 0;
    private static int wrong = 0;

    static void asksOf(String newSubject) {
        subject = newSubject;
        row = 0;
    }

    static void due(long got, long want) {
        row++;
        asked++;
        if (got != want) {
            fails("row " + row + " answered " + got + ", due is " + want);
        }
    }

    static void fails(String how) {
        wrong++;
        System.out.println(subject + ": " + how + " (" + caller() + ")");
    }

    /** Where the test itself stands, behind these helpers. */
    private static String caller() {
        for (StackTraceElement step : new Throwable().getStackTrace()) {
            if (!step.getClassName().equals("Asking") && !step.getClassName().equals("Sentences")) {
                return step.toString();
            }
        }
        return "";
    }

    static void type(SkyTenders x, String text) {
        x.wipe();
        for (char letter : text.toCharArray()) {
            x.write(letter);
        }
    }

    static SkyTenders told(String text) {
        SkyTenders x = new SkyTenders();
        type(x, text);
        if (x.tender() < 0) {
            fails(text + " is no tender");
        }
        return x;
    }

    static int faultOf(String text) {
        SkyTenders x = new SkyTenders();
        type(x, text);
        return x.fault();
    }

    static void end() {
        System.out.println(asked + " answers looked at, " + wrong + " wrong");
        if (wrong != 0 || asked == 0) {
            System.exit(1);
        }
    }
}
