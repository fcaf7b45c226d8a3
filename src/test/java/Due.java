/** Counts and prints the answers that are not the ones that are due. */
final class Due {
    private static int looked = 0;
    private static int wrong = 0;
    private static String about = "";

    private Due() {
    }

    static void about(String what) {
        about = what;
    }

    static void is(String call, long got, long want) {
        looked++;
        if (got != want) {
            wrong++;
            if (wrong <= 50) {
                System.out.println(about + ": " + call + " answered " + got + ", due is " + want);
            }
        }
    }

    static void holds(String what, boolean holds) {
        is(what, holds ? 1 : 0, 1);
    }

    static boolean anyWrong() {
        return wrong != 0;
    }

    static void end() {
        System.out.println(looked + " answers looked at, " + wrong + " not as due");
        if (wrong != 0 || looked == 0) {
            System.exit(1);
        }
    }
}
