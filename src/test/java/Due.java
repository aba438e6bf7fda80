/** What the tests share: a count of wrong answers, and numbers that are the same on every run. */
final class Due {
    private static int wrong = 0;
    private static int asked = 0;
    private static String about = "";
    private static long seed = 20261116L;

    private Due() {
    }

    /** What is asked from here on is about this; it is told with each wrong answer. */
    static void begin(String what) {
        about = what;
        asked = 0;
    }

    static int asked() {
        return asked;
    }

    static void is(String call, long got, long want) {
        asked++;
        if (got != want) {
            isWrong(call + " answered " + got + ", due is " + want);
        }
    }

    static void is(String call, boolean got, boolean want) {
        is(call, got ? 1 : 0, want ? 1 : 0);
    }

    static void is(String call, String got, String want) {
        asked++;
        if (!got.equals(want)) {
            isWrong(call + " answered\n  " + got + ", due is\n  " + want);
        }
    }

    static void isWrong(String what) {
        wrong++;
        System.out.println(about.isEmpty() ? what : about + ": " + what);
    }

    /** A number from 0 up to below the bound. */
    static int pick(int bound) {
        seed = seed * 6364136223846793005L + 1442695040888963407L;
        return (int) ((seed >>> 33) % bound);
    }

    static void end() {
        System.out.println(wrong == 0 ? "all answers are as due" : wrong + " answers are not as due");
        if (wrong != 0) {
            System.exit(1);
        }
    }
}
