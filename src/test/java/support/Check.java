/** Counts the answers of a test and tells those that are not as due. */
final class Check {
    private static int made = 0;
    private static int wrong = 0;

    private Check() {
    }

    static void due(String call, long got, long want) {
        made++;
        if (got != want) {
            wrong++;
            System.out.println(call + " answered " + got + ", due is " + want);
        }
    }

    /** THE TEXT comes in runs of up to 8 bytes, as a caller would feed it. */
    static ChoiceBook feed(ChoiceBook x, String text) {
        for (int from = 0; from < text.length(); from += 8) {
            int n = Math.min(8, text.length() - from);
            long bytes = 0;
            for (int i = 0; i < n; i++) {
                bytes = bytes << 8 | text.charAt(from + i);
            }
            x.feed(n, bytes);
        }
        return x;
    }

    static ChoiceBook told(String text) {
        ChoiceBook x = feed(new ChoiceBook(), text);
        int parts = x.book();
        if (parts < 0) {
            due("book() of " + text, parts, 0);
        }
        return x;
    }

    static void end() {
        System.out.println(made + " answers looked at, " + wrong + " not as due");
        if (made == 0 || wrong != 0) {
            System.exit(1);
        }
    }
}
