/** Counts answers that are not as due, and tells each. */
final class Checks {
    private static int wrong = 0;
    private static int asked = 0;
    private static String part = "";

    private Checks() {
    }

    static void part(String name) {
        part = name;
    }

    static void due(String what, long got, long want) {
        asked++;
        if (got != want) {
            wrong++;
            System.out.println(part + ": " + what + " answered " + got + ", due is " + want);
        }
    }

    static void holds(String what, boolean is) {
        due(what, is ? 1 : 0, 1);
    }

    static int wrongs() {
        return wrong;
    }

    static void type(ElbowRanks x, String text) {
        for (int i = 0; i < text.length(); i++) {
            x.type(text.charAt(i));
        }
    }

    /** A new object that has read this text. */
    static ElbowRanks told(String text) {
        ElbowRanks x = new ElbowRanks();
        type(x, text);
        int items = x.capital();
        if (items < 0) {
            due("capital() of \"" + text + "\"", items, 0);
        }
        return x;
    }

    static void end() {
        System.out.println(asked + " answers, " + wrong + " not as due");
        if (asked == 0 || wrong != 0) {
            System.exit(1);
        }
    }
}
