/** Promises 9, 10, 13 and 21: moves made and taken back, searches forward, counts of the game that is played. */
public final class PlayTest {
    public static void main(String[] args) {
        repetitions();
        refusals();
        captures();
        searches();
        searchRefuses();
        counts();
        Check.end("PlayTest");
    }

    /** Two ferses on four squares have one move each and are back where they were after four. */
    private static void repetitions() {
        EndgameTable x = Check.of("22;f-f");
        Check.same("load", x.load(18), 0);
        for (int i = 1; i <= 40; i++) {
            Check.same("make " + i, x.make(0), i / 4 + 1);
            Check.same("made", x.count(0), i);
            Check.same("occurrences", x.count(2), i / 4 + 1);
            Check.same("different", x.count(3), Math.min(4, i + 1));
            Check.same("without a capture", x.count(4), i);
        }
        Check.same("make 41", x.make(0), -4);
        Check.same("NONE before FULL", x.make(1), -1);
        Check.same("the board stays", x.board(0), 18);
        for (int i = 39; i >= 0; i--) {
            Check.same("back to " + i, x.back(), i);
            Check.same("occurrences, those taken back not", x.count(2), i / 4 + 1);
            Check.same("different, those taken back not", x.count(3), Math.min(4, i + 1));
        }
        Check.same("none is made", x.back(), -3);
        Check.same("at the beginning", x.board(0), 18);
        Check.same("make again", x.make(0), 1);
        Check.same("where it leads", x.board(0), ((3 * 5 + 1) * 5 + 4) * 2 + 1);
        Check.same("setup begins anew", x.setup(0, 1, -1, 0), 18);
        Check.same("nothing is made", x.count(0), 0);
        Check.same("one position", x.count(3), 1);
    }

    private static void refusals() {
        EndgameTable x = Check.of("22;f-f");
        Check.same("make without a position", x.make(99), -3);
        Check.same("back without a position", x.back(), -3);
        x.load(18);
        int[] none = {1, -1, 99, Integer.MIN_VALUE, Integer.MAX_VALUE};
        for (int move : none) Check.same("make(" + move + ")", x.make(move), -1);
        Check.same("nothing was made", x.count(0), 0);
        EndgameTable end = Check.of("22;w-f");
        end.load(89);
        Check.same("no move at an end", end.make(0), -1);
    }

    private static void captures() {
        EndgameTable x = Check.of("34;p-wn");
        x.setup(4, 0, 8, 0);
        Check.same("since the beginning", x.count(4), 0);
        Check.same("quiet", x.make(0), 1);
        Check.same("one since the beginning", x.count(4), 1);
        x.back();
        Check.same("the capture", x.make(1), 1);
        Check.same("none since it", x.count(4), 0);
        Check.same("the captured man", x.board(12), -5);
        Check.same("Black moves", x.make(0), 1);
        Check.same("one since it", x.count(4), 1);
        Check.same("one more", x.make(0), 1);
        Check.same("two since it", x.count(4), 2);
        Check.same("three made", x.count(0), 3);
        Check.same("back", x.back(), 2);
        Check.same("one since it again", x.count(4), 1);
        Check.same("back", x.back(), 1);
        Check.same("back", x.back(), 0);
        Check.same("since the beginning again", x.count(4), 0);
        Check.same("the man is there again", x.board(12), 8);
    }

    private static void searches() {
        EndgameTable x = Check.of("22;w-f");
        x.load(38);
        int[] won = {0, 1, 1, 1, 1};
        for (int depth = 0; depth < 5; depth++) Check.same("won, depth " + depth, x.search(depth), won[depth]);
        x.load(89);
        for (int depth = 0; depth < 5; depth++) Check.same("lost end, depth " + depth, x.search(depth), -1);
        Check.same("the board stays", x.board(0), 89);
        EndgameTable drawn = Check.of("22;f-f");
        drawn.load(18);
        for (int depth = 0; depth < 5; depth++) Check.same("drawn, depth " + depth, drawn.search(depth), 0);
        EndgameTable stale = Check.of("22;w-w;w");
        stale.load(39);
        for (int depth = 0; depth < 5; depth++) Check.same("won end, depth " + depth, stale.search(depth), 1);
        looksAhead("34;kr-k");
        looksAhead("33;k-kp;l");
        looksAhead("33;kr-k;x1");
    }

    /** A search finds a value just when the distance to the end is not beyond its depth. */
    private static void looksAhead(String text) {
        EndgameTable x = Check.of(text);
        for (int index = 0; index < 4394; index++) {
            if (x.load(index) < 0) continue;
            for (int depth = 0; depth <= 4; depth++) {
                boolean seen = x.board(2) != 0 && x.board(3) <= depth;
                Check.same(text + " " + index + ": search(" + depth + ")", x.search(depth), seen ? x.board(2) : 0);
            }
        }
    }

    private static void searchRefuses() {
        EndgameTable x = Check.of("22;w-f");
        Check.same("no position", x.search(-1), -3);
        x.load(38);
        int[] bad = {-1, 5, 99, Integer.MIN_VALUE, Integer.MAX_VALUE};
        for (int depth : bad) Check.same("search(" + depth + ")", x.search(depth), -2);
    }

    private static void counts() {
        EndgameTable x = Check.of("22;f-f");
        for (int what = 0; what < 5; what++) Check.same("no position: count(" + what + ")", x.count(what), 0);
        x.feed(3, 1, 2, 3, 0, 0);
        x.load(18);
        int[] want = {0, 3, 1, 1, 0};
        for (int what = 0; what < 5; what++) Check.same("at the beginning: count(" + what + ")", x.count(what), want[what]);
        int[] none = {-1, 5, 99, Integer.MIN_VALUE, Integer.MAX_VALUE};
        for (int what : none) Check.same("count(" + what + ")", x.count(what), -1);
    }
}
