/** Promises 5 to 8: positions on the board, by squares or by index, their properties and their moves. */
public final class BoardTest {
    public static void main(String[] args) {
        setupPuts();
        setupRefuses();
        loadPuts();
        boardTells();
        boardRefuses();
        moveTells();
        moveOrder();
        movesOfLetters();
        movesOfRiders();
        movesOfPawns();
        royalSafety();
        Check.end("BoardTest");
    }

    private static void setupPuts() {
        EndgameTable x = Check.of("33;kr-k");
        Check.same("setup", x.setup(0, 1, 8, 0), 36);
        Check.same("with Black to move", x.setup(0, 1, 8, 1), 37);
        Check.same("a captured man", x.setup(0, -1, 8, 0), 196);
        Check.same("Black attacked and to move", x.setup(0, 2, 8, 1), 57);
        EndgameTable two = Check.of("33;k-k");
        Check.same("two men", two.setup(0, 8, -1, 0), 178);
    }

    private static void setupRefuses() {
        EndgameTable x = Check.of("33;kr-k;x6");
        x.setup(0, 1, 8, 0);
        x.make(0);
        int stands = x.board(0);
        Check.same("side 2", x.setup(0, 1, 8, 2), -2);
        Check.same("side -1", x.setup(0, 1, 8, -1), -2);
        int[] out = {9, -2, 12, Integer.MIN_VALUE, Integer.MAX_VALUE};
        for (int square : out) {
            Check.same("a " + square, x.setup(square, 1, 8, 0), -2);
            Check.same("b " + square, x.setup(0, square, 8, 0), -2);
            Check.same("c " + square, x.setup(0, 1, square, 0), -2);
        }
        Check.same("BAD before -5", x.setup(0, 0, 9, 0), -2);
        Check.same("White's royal man captured", x.setup(-1, 1, 8, 0), -5);
        Check.same("Black's royal man captured", x.setup(0, 1, -1, 0), -5);
        Check.same("two men on a square", x.setup(0, 0, 8, 0), -5);
        Check.same("royal men on a square", x.setup(8, 0, 8, 0), -5);
        Check.same("a man in a hole", x.setup(0, 6, 8, 0), -5);
        Check.same("a royal man in a hole", x.setup(6, 0, 8, 0), -5);
        Check.same("Black attacked, White to move", x.setup(0, 2, 8, 0), -5);
        Check.same("royal men side by side, White to move", x.setup(0, 8, 4, 0), -5);
        Check.same("royal men side by side, Black to move", x.setup(0, 8, 4, 1), -5);
        Check.same("the board stays", x.board(0), stands);
        Check.same("its moves stay", x.count(0), 1);
        EndgameTable two = Check.of("33;k-k");
        Check.same("a man that does not exist", two.setup(0, 8, 4, 0), -2);
        Check.same("also where it could not stand", two.setup(0, 0, 0, 0), -2);
        Check.same("below -1", two.setup(0, 8, -2, 0), -2);
        Check.same("no position", two.board(0), -3);
    }

    private static void loadPuts() {
        EndgameTable x = Check.of("33;k-k");
        Check.same("White to move", x.load(178), 0);
        Check.same("its square", x.board(11), 8);
        Check.same("Black to move", x.load(179), 1);
        Check.same("make", x.make(0), 1);
        Check.same("load again", x.load(178), 0);
        Check.same("a game begins", x.count(0), 0);
        Check.same("a square of no man", x.load(160), -5);
        int[] none = {0, -1, 18, 1999, 2000, 4394, 99999, Integer.MIN_VALUE, Integer.MAX_VALUE};
        for (int index : none) Check.same("load(" + index + ")", x.load(index), -5);
        Check.same("the board stays", x.board(0), 178);
        Check.same("white attacked by the other king", x.load((4 * 100 + 8 * 10 + 9) * 2), -5);
    }

    private static void boardTells() {
        EndgameTable x = Check.of("22;w-f");
        tells(x, 38, 0, 1, 1, 1, 1, 1, 2, 38, 4, 0, 3);
        tells(x, 89, 1, -1, 0, 0, -1, 1, 0, 19, 8, 1, 3);
        tells(Check.of("22;w-f;m0"), 38, 0, 1, 1, 1, 0, 1, 2, 38, 4, 0, 3);
        tells(Check.of("22;w-f;m0"), 89, 1, -1, 0, 0, -1, 1, 0, 19, 8, 1, 3);
        tells(Check.of("22;w-f;m1"), 38, 0, 1, 1, 1, 1, 1, 2, 38, 4, 0, 3);
        tells(Check.of("22;f-f"), 18, 0, 0, -5, -5, 0, 0, 1, 18, 8, 0, 1);
        tells(Check.of("22;w-w"), 78, 0, 0, -5, -5, 0, 0, 0, 38, 4, 1, 2);
        tells(Check.of("22;w-w;l"), 78, 0, -1, 0, 0, -1, 0, 0, 38, 4, 1, 2);
        tells(Check.of("22;w-w;w;m0"), 78, 0, 1, 0, 0, 1, 0, 0, 38, 4, 1, 2);
        EndgameTable y = Check.of("33;kr-k");
        y.setup(0, -1, 8, 0);
        Check.same("a captured man's square", y.board(11), -5);
        Check.same("Black's square", y.board(12), 8);
    }

    private static void tells(EndgameTable x, int index, int... want) {
        Check.same("load(" + index + ")", x.load(index), want[0]);
        Check.same("board(0)", x.board(0), index);
        for (int i = 0; i < want.length; i++) {
            Check.same("board(" + (i + 1) + ") of " + index, x.board(i + 1), want[i]);
        }
    }

    private static void boardRefuses() {
        EndgameTable x = Check.of("22;w-f");
        Check.same("no position", x.board(99), -3);
        x.load(38);
        int[] none = {-1, 12, 13, 99, Integer.MIN_VALUE, Integer.MAX_VALUE};
        for (int what : none) Check.same("board(" + what + ")", x.board(what), -1);
    }

    private static void moveTells() {
        EndgameTable x = Check.of("22;w-f");
        x.load(38);
        int[][] want = {{0, 1, -5, -1, 0, 0, 89}, {0, 2, -5, -1, 0, 0, 139}};
        for (int move = 0; move < 2; move++) {
            for (int what = 0; what < 7; what++) {
                Check.same("move(" + move + ", " + what + ")", x.move(move, what), want[move][what]);
            }
        }
        int[] none = {-1, 2, 3, 99, Integer.MIN_VALUE, Integer.MAX_VALUE};
        for (int move : none) Check.same("move(" + move + ", 0)", x.move(move, 0), -1);
        int[] wild = {-1, 7, 10, 99, Integer.MIN_VALUE, Integer.MAX_VALUE};
        for (int what : wild) Check.same("move(0, " + what + ")", x.move(0, what), -1);
        x.load(89);
        Check.same("an end has no moves", x.move(0, 0), -1);
        EndgameTable drawn = Check.of("22;f-f");
        drawn.load(18);
        Check.same("drawn", drawn.move(0, 3), 0);
        Check.same("no distance to the end", drawn.move(0, 4), -5);
        Check.same("none to conversion", drawn.move(0, 5), -5);
    }

    /** King 0, rook 1, king 8 on nine squares: the king goes to 3 alone, the rook to 2, 4 and 7. */
    private static void moveOrder() {
        EndgameTable x = Check.of("33;kr-k");
        x.setup(0, 1, 8, 0);
        int[][] want = {{0, 3}, {1, 2}, {1, 4}, {1, 7}};
        Check.same("their number", x.board(7), want.length);
        for (int move = 0; move < want.length; move++) {
            Check.same("man of " + move, x.move(move, 0), want[move][0]);
            Check.same("square of " + move, x.move(move, 1), want[move][1]);
        }
        EndgameTable y = Check.of("34;p-wn");
        y.setup(4, 0, 8, 0);
        Check.same("the capture is the second", y.move(1, 1), 8);
        Check.same("its man", y.move(1, 2), 2);
        Check.same("the first captures none", y.move(0, 2), -5);
    }

    private static void movesOfLetters() {
        goes("34;ww-w", 4, 11, 1, 3, 5, 7);
        goes("34;wf-w", 4, 11, 2, 6, 8);
        goes("34;wk-w", 4, 11, 1, 2, 3, 5, 6, 7, 8);
        goes("34;wn-w", 4, 10, 9, 11);
        goes("34;wa-w", 3, 10, 11);
        goes("34;wa-w", 4, 11);
        goes("34;wd-w", 4, 11, 10);
        goes("34;wr-w", 4, 11, 1, 3, 5, 7, 10);
        goes("34;wb-w", 4, 11, 2, 6, 8);
        goes("34;wq-w", 4, 11, 1, 2, 3, 5, 6, 7, 8, 10);
        goes("34;wp-w", 4, 11, 7);
        goes("62;wn-w", 8, 11, 4);
        goes("62;wd-w", 8, 11, 6, 10);
        goes("62;wr-w", 3, 11, 1, 2, 4, 5, 9);
        goes("26;wb-w", 5, 11, 2, 6);
    }

    private static void movesOfRiders() {
        goes("34;wr-w;x7", 4, 11, 1, 3, 5);
        goes("34;wr-w;x10", 4, 11, 1, 3, 5, 7);
        goes("34;wq-w;x7,2", 4, 11, 1, 3, 5, 6, 8);
        goes("34;wd-w;x7", 4, 11, 10);
        goes("34;wn-w;x3,6,7", 4, 10, 9, 11);
        goes("34;wa-w;x7", 3, 10, 11);
        goes("34;wk-w;x1,3,5", 4, 11, 2, 6, 7, 8);
        EndgameTable x = Check.of("34;wr-w");
        x.setup(7, 4, 11, 0);
        Check.same("behind the own man", targets(x, 1), bits(1, 3, 5));
        EndgameTable y = Check.of("34;r-wn");
        y.setup(4, 0, 7, 0);
        Check.same("a capture, none behind it, none where it is attacked", targets(y, 0), bits(5, 7));
    }

    private static void movesOfPawns() {
        goes("34;wp-w", 7, 2, 10);
        goes("34;wp-w", 10, 11);
        EndgameTable x = Check.of("34;wp-w");
        x.setup(0, 4, 7, 0);
        Check.same("blocked", targets(x, 1), 0);
        x.setup(7, 4, 11, 0);
        Check.same("blocked by an own man", targets(x, 1), 0);
        EndgameTable y = Check.of("34;p-wn");
        y.setup(4, 0, 8, 0);
        Check.same("captures on one diagonal", targets(y, 0), bits(7, 8));
        y.setup(4, 0, 3, 0);
        Check.same("not beside it", targets(y, 0), bits(7));
        EndgameTable z = Check.of("34;w-wp");
        z.setup(0, 11, 7, 1);
        Check.same("Black's goes to a lower row", targets(z, 2), bits(4));
        z.setup(0, 11, 2, 1);
        Check.same("and stops in the lowest", targets(z, 2), 0);
        Check.same("Black's attacks lower diagonals", z.setup(4, 11, 8, 1), -5);
        Check.same("not its column", z.setup(5, 11, 8, 1), ((5 * 13 + 11) * 13 + 8) * 2 + 1);
    }

    private static void royalSafety() {
        EndgameTable x = Check.of("22;w-w");
        x.load(38);
        Check.same("both squares are attacked", x.board(7), 0);
        Check.same("the royal man is not", x.board(6), 0);
        EndgameTable y = Check.of("22;w-f");
        y.load(19);
        Check.same("attacked", y.board(6), 1);
        Check.same("no way out", y.board(7), 0);
        EndgameTable pinned = Check.of("34;kn-r");
        pinned.setup(1, 4, 10, 0);
        Check.same("a pinned knight has no moves", targets(pinned, 1), 0);
        pinned.setup(1, 4, 8, 0);
        Check.same("a free one has two", targets(pinned, 1), bits(9, 11));
        EndgameTable between = Check.of("34;kw-r");
        between.setup(0, 4, 2, 0);
        Check.same("attacked in its row", between.board(6), 1);
        Check.same("a man that steps between, there alone", targets(between, 1), bits(1));
        between.setup(1, 6, 10, 0);
        Check.same("attacked in its column", between.board(6), 1);
        Check.same("the square between in the column", targets(between, 1), bits(7));
    }

    /** The squares to which White's second man goes, the first one on 0, Black's royal man as told. */
    private static void goes(String text, int from, int black, int... squares) {
        EndgameTable x = Check.of(text);
        Check.holds(text + " is possible", x.setup(0, from, black, 0) >= 0);
        Check.same(text + " from " + from, targets(x, 1), bits(squares));
    }

    private static int targets(EndgameTable x, int man) {
        int found = 0;
        for (int move = 0; move < x.board(7); move++) {
            if (x.move(move, 0) == man) found |= 1 << x.move(move, 1);
        }
        return found;
    }

    private static int bits(int... squares) {
        int bits = 0;
        for (int square : squares) bits |= 1 << square;
        return bits;
    }
}
