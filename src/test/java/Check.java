/** Counts what is not as due, and types whole texts. */
final class Check {
    private static int asked = 0;
    private static int wrong = 0;

    private Check() {
    }

    static void same(String what, long got, long due) {
        asked++;
        if (got != due) {
            wrong++;
            System.out.println(what + " answered " + got + ", due is " + due);
        }
    }

    static void holds(String what, boolean isSo) {
        same(what, isSo ? 1 : 0, 1);
    }

    /** Says the first line in which they differ. */
    static void alike(String what, String got, String due) {
        holds(what + firstUnlike(got.split("\n"), due.split("\n")), got.equals(due));
    }

    private static String firstUnlike(String[] got, String[] due) {
        for (int i = 0; i < got.length && i < due.length; i++) {
            if (!got[i].equals(due[i])) {
                return " (" + got[i] + ", without it " + due[i] + ")";
            }
        }
        return "";
    }

    static int wrong() {
        return wrong;
    }

    static void end() {
        System.out.println(asked + " answers asked, " + wrong + " not as due");
        if (wrong != 0) {
            System.exit(1);
        }
    }

    /** Types a text of characters 0 to 255, eight at a time. */
    static void type(FiveThings x, String text) {
        int at = 0;
        while (at < text.length()) {
            int n = Math.min(8, text.length() - at);
            long v = 0;
            for (int i = 0; i < n; i++) {
                v = v << 8 | text.charAt(at + i);
            }
            x.type(v, n);
            at += n;
        }
    }

    /** A new object that was told this text; the text must be without a fault. */
    static FiveThings told(String text) {
        FiveThings x = new FiveThings();
        type(x, text);
        int items = x.house();
        holds("house() of '" + text + "'", items >= 0);
        return x;
    }
}
