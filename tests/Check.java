/** Compares answers with those that are due, for the tests of this folder. */
final class Check {
    private static int right = 0, wrong = 0;

    private Check() {
    }

    static void same(String call, long got, long want) {
        if (got == want) {
            right++;
            return;
        }
        wrong++;
        System.out.println(call + " answered " + got + ", due is " + want);
    }

    static void text(String what, String got, String want) {
        boolean same = got.equals(want);
        if (!same) System.out.println(what + " is " + got + ", due is " + want);
        holds(what, same);
    }

    static void holds(String what, boolean held) {
        same(what, held ? 1 : 0, 1);
    }

    /** Puts a text on the tape, byte by byte in fives. */
    static void feed(EndgameTable table, String text) {
        for (int i = 0; i < text.length(); i += 5) {
            int n = Math.min(5, text.length() - i);
            int[] bytes = new int[5];
            for (int k = 0; k < n; k++) bytes[k] = text.charAt(i + k);
            table.feed(n, bytes[0], bytes[1], bytes[2], bytes[3], bytes[4]);
        }
    }

    static int define(EndgameTable table, String text) {
        feed(table, text);
        return table.define();
    }

    /** A new object with a game. */
    static EndgameTable of(String text) {
        EndgameTable table = new EndgameTable();
        int answer = define(table, text);
        if (answer < 0) same("define() of " + text, answer, 0);
        return table;
    }

    static int letter(char letter) {
        return "wfknarbqdp".indexOf(letter);
    }

    /** Ends the test: with the code 1 if an answer was wrong. */
    static void end(String test) {
        System.out.println(test + ": " + right + " answers as due, " + wrong + " not");
        if (wrong != 0 || right == 0) System.exit(1);
    }
}
