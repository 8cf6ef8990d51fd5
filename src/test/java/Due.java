/** Counts and prints the answers that are not as due. */
final class Due {
    private static int wrong = 0;
    private static int looked = 0;
    private static String about = "";

    private Due() {
    }

    /** What the answers that follow are asked for: printed ahead of each that is wrong. */
    static void about(String words) {
        about = words.isEmpty() ? "" : words + ": ";
    }

    static void due(String call, long got, long want) {
        looked++;
        if (got != want) {
            wrong++;
            System.out.println(about + call + " answered " + got + ", due is " + want);
        }
    }

    /** Both parts of a fraction. */
    static void due(String call, long above, long below, long wantAbove, long wantBelow) {
        due(call + " above", above, wantAbove);
        due(call + " below", below, wantBelow);
    }

    static int wrongSoFar() {
        return wrong;
    }

    static int lookedSoFar() {
        return looked;
    }

    static void end(String test) {
        System.out.println(test + ": " + looked + " answers looked at, " + wrong + " not as due");
        if (wrong != 0 || looked == 0) {
            System.exit(1);
        }
    }
}
