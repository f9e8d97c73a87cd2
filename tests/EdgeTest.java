/**
 * The sentences of the document that name an edge, as far as the tests of the promises do not show them: each function
 * stands for one sentence, quoted above it. README.md tells where the others have their tests.
 */
public final class EdgeTest {
    private static final int LEAST = Integer.MIN_VALUE, GREATEST = Integer.MAX_VALUE;

    public static void main(String[] args) {
        everyLengthOfTheTape();
        everyByteIsFed();
        refusedBytesAreNotAppended();
        everySize();
        everyByteAtEveryPlace();
        everySquareIsTold();
        everyLimitIsTold();
        theLastClauseCounts();
        emptyTapeLeavesTheGame();
        defineEmptiesTheBoard();
        boardOfHolesAlone();
        edgesStopMen();
        edgesStopPawns();
        royalPawns();
        indicesAtTheEnds();
        setupAndLoadAgree();
        limitIsNotExceeded();
        theFirstErrorCounts();
        refusedCallsChangeNothing();
        questionsChangeNothing();
        fullGames();
        gamesBeginAnew();
        beginningWithACapturedMan();
        fullSnapshot();
        Check.end("EdgeTest");
    }

    /** FULL if the tape would be longer than 40 bytes, and then none is appended. */
    private static void everyLengthOfTheTape() {
        for (int length = 0; length <= 40; length++) {
            for (int n = 1; n <= 5; n++) {
                EndgameTable x = new EndgameTable();
                Check.feed(x, "z".repeat(length));
                boolean fits = length + n <= 40;
                Check.same("feed " + n + " behind " + length, x.feed(n, 9, 9, 9, 9, 9), fits ? length + n : -4);
                Check.same("the length then", x.count(1), fits ? length + n : length);
            }
        }
    }

    /** A byte, 0 to 127; BAD also for those that are not appended. */
    private static void everyByteIsFed() {
        for (int one = -2; one <= 129; one++) {
            boolean fits = one >= 0 && one <= 127;
            for (int n = 1; n <= 5; n++) {
                EndgameTable x = new EndgameTable();
                Check.same("a " + one, x.feed(n, one, 1, 1, 1, 1), fits ? n : -2);
                int had = x.count(1);
                Check.same("b " + one, x.feed(n, 1, one, 1, 1, 1), fits ? had + n : -2);
                Check.same("c " + one, x.feed(n, 1, 1, one, 1, 1), fits ? had + 2 * n : -2);
                Check.same("d " + one, x.feed(n, 1, 1, 1, one, 1), fits ? had + 3 * n : -2);
                Check.same("e " + one, x.feed(n, 1, 1, 1, 1, one), fits ? had + 4 * n : -2);
                Check.same("appended", x.count(1), fits ? 5 * n : 0);
            }
        }
    }

    /** A call that returns an error code leaves the state unchanged: the text is read as if it had not been. */
    private static void refusedBytesAreNotAppended() {
        EndgameTable x = new EndgameTable();
        String text = "34;k-kk;x0,1,2,3,4,5,6,7,8,9,10,11;m99;d";
        Check.feed(x, text.substring(0, 38));
        Check.same("FULL", x.feed(5, ';', 'd', ';', 'd', 'd'), -4);
        Check.same("BAD, n", x.feed(0, ';', 'd', ';', 'd', 'd'), -2);
        Check.same("BAD, a byte", x.feed(1, ';', 'd', ';', 'd', 128), -2);
        Check.same("the rest", x.feed(2, ';', 'd', 0, 0, 0), 40);
        Check.same("define", x.define(), 0);
    }

    /** Width and height are digits 2 to 6, with a product of at most 12. */
    private static void everySize() {
        EndgameTable x = new EndgameTable();
        for (int first = 0; first < 128; first++) {
            for (int second = 0; second < 128; second++) {
                int width = first - '0', height = second - '0';
                boolean wide = width >= 2 && width <= 6;
                boolean good = wide && height >= 2 && height <= 6 && width * height <= 12;
                x.feed(5, first, second, ';', 'w', '-');
                x.feed(1, 'w', 0, 0, 0, 0);
                int want = good ? width * height : wide ? -101 : -100;
                Check.same("define with " + first + ", " + second, x.define(), want);
                if (good) Check.same("its width and height", x.game(0) * 10 + x.game(1), width * 10 + height);
            }
        }
    }

    /** The error position is the index of the first byte with which no game can continue, or the text's length. */
    private static void everyByteAtEveryPlace() {
        EndgameTable x = new EndgameTable();
        String[] texts = {"22;wf-a;x3,0;m10;d", "23;b-pn;m0;l;x5,1,0", "62;k-r;x11,10;w;m9"};
        for (String text : texts) {
            for (int at = 0; at <= text.length(); at++) {
                defined(x, text.substring(0, at));
                for (char sign = 0; sign < 128; sign++) {
                    defined(x, text.substring(0, at) + sign);
                    defined(x, text.substring(0, at) + sign + text.substring(at));
                    if (at < text.length()) defined(x, text.substring(0, at) + sign + text.substring(at + 1));
                }
            }
        }
    }

    private static void defined(EndgameTable x, String text) {
        int error = Model.errorPosition(text);
        int answer = Check.define(x, text);
        Check.same("define() of " + text, answer < 0 ? answer : 1, error < 0 ? 1 : -100 - error);
        Check.same("the tape behind it", x.count(1), 0);
    }

    /** A square that is not on the board is wrong at its first digit; a digit behind a 0 is wrong itself. */
    private static void everySquareIsTold() {
        EndgameTable x = new EndgameTable();
        String[] sizes = {"22", "32", "24", "33", "52", "34"};
        for (String size : sizes) {
            int squares = (size.charAt(0) - '0') * (size.charAt(1) - '0');
            for (int square = 0; square <= 99; square++) {
                int want = square < squares ? squares - 1 : -108;
                Check.same(size + ": x" + square, Check.define(x, size + ";w-w;x" + square), want);
                if (want > 0) Check.same("its hole", x.game(4), 1 << square);
                Check.same(size + ": x0," + square, Check.define(x, size + ";w-w;x0," + square),
                    square == 0 ? squares - 1 : square < squares ? squares - 2 : -110);
                if (square < 10) Check.same(size + ": x0" + square, Check.define(x, size + ";w-w;x0" + square), -109);
            }
        }
        Check.same("three digits, the first two no square", Check.define(x, "34;w-w;x120"), -108);
        Check.same("three digits, the first two a square", Check.define(x, "34;w-w;x110"), -110);
    }

    /** A number after m has the same form; m tells the limit, of several the last one. */
    private static void everyLimitIsTold() {
        EndgameTable x = new EndgameTable();
        for (int limit = 0; limit <= 99; limit++) {
            Check.same("m" + limit, Check.define(x, "22;w-w;m" + limit), 4);
            Check.same("the limit", x.game(6), limit);
            Check.same("m" + limit + ";m" + (99 - limit), Check.define(x, "22;w-w;m" + limit + ";m" + (99 - limit)), 4);
            Check.same("the last limit", x.game(6), 99 - limit);
            if (limit < 10) Check.same("m0" + limit, Check.define(x, "22;w-w;m0" + limit), -109);
        }
        for (int limit = 100; limit <= 999; limit++) {
            Check.same("m" + limit, Check.define(x, "22;w-w;m" + limit), -110);
        }
    }

    /** Of several clauses d, l, w the last one counts. */
    private static void theLastClauseCounts() {
        String letters = "ldw";
        for (int i = 0; i < 27; i++) {
            char a = letters.charAt(i / 9), b = letters.charAt(i / 3 % 3), c = letters.charAt(i % 3);
            EndgameTable x = Check.of("22;w-w;" + a + ";m3;" + b + ";x0;" + c + ";m2");
            Check.same(a + ", " + b + ", " + c, x.game(5), i % 3 - 1);
        }
    }

    /** The text that ends too early at once is wrong, too, and changes nothing: the tape is empty already. */
    private static void emptyTapeLeavesTheGame() {
        EndgameTable x = playing();
        String before = state(x);
        Check.same("define", x.define(), -100);
        Check.same("again", x.define(), -100);
        Check.text("the state", state(x), before);
    }

    /** Reads the game in place of an earlier one; the board is empty then. */
    private static void defineEmptiesTheBoard() {
        EndgameTable x = playing();
        Check.same("define", Check.define(x, "22;f-f"), 4);
        for (int what = 0; what < 5; what++) Check.same("count(" + what + ")", x.count(what), 0);
        for (int what = 0; what < 12; what++) Check.same("board(" + what + ")", x.board(what), -3);
        Check.same("move", x.move(0, 0), -3);
        Check.same("make", x.make(0), -3);
        Check.same("back", x.back(), -3);
        Check.same("best", x.best(), -3);
        Check.same("line", x.line(-1), -3);
        Check.same("search", x.search(0), -3);
        Check.same("unlike", x.unlike(), -3);
        Check.same("the earlier game's third man", x.game(12), -1);
        Check.same("the game's positions", x.game(8), 16);
    }

    /** Squares that are holes carry no men: without two others there are no positions. */
    private static void boardOfHolesAlone() {
        String[] texts = {"22;w-f;x0,1,2,3", "22;w-f;x3,2,1", "34;k-kk;x0,1,2,3,4,5,6,7,8,9,10,11"};
        int[] left = {0, 1, 0};
        for (int i = 0; i < texts.length; i++) {
            EndgameTable x = new EndgameTable();
            Check.same(texts[i], Check.define(x, texts[i]), left[i]);
            Check.same("no positions", x.game(8), 0);
            Check.same("setup", x.setup(0, 1, -1, 0), -5);
            for (int index = 0; index < 4394; index++) Check.same("load(" + index + ")", x.load(index), -5);
            for (int side = 0; side < 2; side++) {
                for (int value = -1; value < 2; value++) Check.same("positions", x.positions(side, value, 2), 0);
                for (int kind = 0; kind < 2; kind++) Check.same("spread", x.spread(kind, side, 0), 0);
            }
            Check.same("longest", x.longest(0, 0), -5);
            Check.same("the lowest index", x.longest(1, 1), -5);
            Check.same("zugzwangs", x.zugzwang(-1), 0);
            Check.same("the first of them", x.zugzwang(0), -1);
            Check.same("image", x.image(), 1);
        }
        EndgameTable two = Check.of("22;w-f;x0,1");
        Check.same("two squares: two men beside each other, White to move or Black", two.game(8), 2);
    }

    /** Men do not pass the edge: in a row's last column nothing leads to the next row's first. */
    private static void edgesStopMen() {
        String letters = "wfknadrbq";
        int[][] corner = {{2, 7}, {6}, {2, 6, 7}, {5, 10}, {9}, {1, 11}, {0, 1, 2, 7, 11}, {6, 9},
            {0, 1, 2, 6, 7, 9, 11}};
        int[][] border = {{0, 5, 8}, {1, 9}, {0, 1, 5, 8, 9}, {2, 10}, {}, {6}, {0, 5, 6, 7, 8}, {1, 9},
            {0, 1, 5, 6, 7, 8, 9}};
        for (int i = 0; i < letters.length(); i++) {
            char letter = letters.charAt(i);
            goes("43;" + letter + "-a", 3, 4, 0, corner[i]);
            goes("43;a-" + letter, 3, 4, 1, corner[i]);
            goes("43;" + letter + "-p", 4, 3, 0, border[i]);
            goes("43;p-" + letter, 4, 11, 1, border[i]);
        }
    }

    /** A pawn's two next squares on a diagonal end at the edge; in its last row it has no moves. */
    private static void edgesStopPawns() {
        goes("43;p-a", 3, 4, 0, 7);
        goes("43;p-a", 4, 7, 0, 8);
        goes("43;a-p", 8, 7, 1, 4);
        goes("43;a-p", 7, 4, 1, 3);
        for (int square = 8; square < 12; square++) goes("43;p-a", square, 4, 0);
        for (int square = 0; square < 4; square++) goes("43;a-p", square, 4, 1);
        EndgameTable x = Check.of("43;pa-k");
        Check.same("no attack round the edge", x.setup(3, 0, 8, 0), ((3 * 13 + 0) * 13 + 8) * 2);
        Check.same("nor at the other", x.setup(4, 0, 7, 0), ((4 * 13 + 0) * 13 + 7) * 2);
        Check.same("but on the diagonal", x.setup(3, 0, 6, 0), -5);
        Check.same("no attack from the last row", x.setup(8, 0, 2, 0), ((8 * 13 + 0) * 13 + 2) * 2);
    }

    /** The squares to which a lone man goes from a square; the other one neither attacks them nor is attacked. */
    private static void goes(String text, int from, int other, int side, int... squares) {
        EndgameTable x = Check.of(text);
        int index = side == 0 ? x.setup(from, other, -1, 0) : x.setup(other, from, -1, 1);
        String name = text + " from " + from;
        Check.holds(name + " is possible", index >= 0);
        Check.same(name + ": moves", x.board(7), squares.length);
        for (int move = 0; move < squares.length; move++) {
            Check.same(name + ": move " + move, x.move(move, 1), squares[move]);
        }
        Check.same(name + ": none behind", x.move(squares.length, 1), -1);
    }

    /** The first man of each side is royal, a pawn too: without moves it is stalemate, attacked it is lost. */
    private static void royalPawns() {
        EndgameTable x = Check.of("22;p-p;w");
        Check.same("attacked by each other", x.setup(0, 3, -1, 0), -5);
        Check.same("both in their last rows", x.setup(2, 1, -1, 0), ((2 * 5 + 1) * 5 + 4) * 2);
        Check.same("no moves there", x.board(7), 0);
        Check.same("a stalemate", x.board(2), 1);
        Check.same("in one column, face to face", x.setup(0, 2, -1, 0), ((0 * 5 + 2) * 5 + 4) * 2);
        Check.same("neither moves", x.board(7), 0);
        Check.same("a stalemate, too", x.board(2), 1);
        Check.same("not attacked", x.board(6), 0);
        EndgameTable y = Check.of("33;p-w");
        Check.same("a lost one", y.setup(6, 7, -1, 0), ((6 * 10 + 7) * 10 + 9) * 2);
        Check.same("attacked", y.board(6), 1);
        Check.same("its value", y.board(2), -1);
    }

    /** -5 if this is no index of a possible position. */
    private static void indicesAtTheEnds() {
        EndgameTable x = Check.of("34;a-a");
        int greatest = ((11 * 13 + 10) * 13 + 12) * 2 + 1;
        Check.same("the greatest index", x.load(greatest), 1);
        Check.same("its man", x.board(11), 10);
        int least = ((0 * 13 + 1) * 13 + 12) * 2;
        Check.same("the least one", x.load(least), 0);
        int[] none = {least - 1, least - 2, greatest + 1, 4393, 4394, 4395, 8788, LEAST, LEAST + least, GREATEST};
        for (int index : none) Check.same("load(" + index + ")", x.load(index), -5);
        Check.same("the board stays", x.board(0), least);
    }

    /** The index of a position, with n for a man that is captured or does not exist. */
    private static void setupAndLoadAgree() {
        String[] texts = {"33;kr-k", "24;p-wn;x3", "32;f-w"};
        for (String text : texts) {
            EndgameTable x = Check.of(text);
            int n = x.game(0) * x.game(1), third = x.game(2) == 3 ? n : 0;
            int found = 0;
            for (int a = -1; a < n; a++) for (int b = -1; b < n; b++) for (int c = -1; c < third; c++) {
                for (int side = 0; side < 2; side++) {
                    int index = x.setup(a, b, c, side);
                    if (index < 0) continue;
                    found++;
                    int of = (((a < 0 ? n : a) * (n + 1) + (b < 0 ? n : b)) * (n + 1) + (c < 0 ? n : c)) * 2 + side;
                    Check.same(text + ": setup", index, of);
                    Check.same(text + ": load", x.load(index), side);
                    Check.same(text + ": man 1", x.board(11), b < 0 ? -5 : b);
                }
            }
            Check.same(text + ": all of them", found, x.game(8));
        }
    }

    /** With a limit, the verdict is drawn if the distance to conversion is greater than it; otherwise the value. */
    private static void limitIsNotExceeded() {
        for (int limit = 0; limit <= 11; limit++) {
            EndgameTable x = Check.of("34;kr-k;m" + limit);
            for (int index = 0; index < 4394; index++) {
                if (x.load(index) < 0) continue;
                Check.same(limit + ": verdict of " + index, x.board(5), x.board(4) > limit ? 0 : x.board(2));
            }
            Check.same(limit + ": the values stay", x.positions(0, 1, 0), 402);
            Check.same(limit + ": the distances stay", x.longest(1, 0), 10);
        }
    }

    /** If several errors apply, the one that is listed first in the @return line is returned. */
    private static void theFirstErrorCounts() {
        EndgameTable x = Check.of("22;f-f");
        Check.same("BAD before -5", x.setup(0, 0, 4, 0), -2);
        Check.same("board: STATE before NONE", x.board(99), -3);
        Check.same("move: STATE before NONE", x.move(-1, 99), -3);
        Check.same("make: STATE before NONE", x.make(-1), -3);
        Check.same("line: STATE before NONE", x.line(0), -3);
        Check.same("search: STATE before BAD", x.search(5), -3);
        Check.same("spread: NONE before BAD", x.spread(2, 0, -1), -1);
        Check.same("longest: NONE before -5", x.longest(2, 0), -1);
        for (int i = 0; i < 40; i++) {
            if (i == 0) x.load(18);
            x.make(0);
        }
        Check.same("make: NONE before FULL", x.make(1), -1);
        Check.same("make: FULL", x.make(0), -4);
    }

    /** A call that returns an error code leaves the state unchanged. */
    private static void refusedCallsChangeNothing() {
        EndgameTable x = playing();
        x.feed(4, '2', '2', ';', 'w', 0);
        String before = state(x);
        int[] wild = {LEAST, -6, -2, 13, 99, 4394, GREATEST};
        for (int one : wild) {
            Check.same("feed", x.feed(one, 1, 1, 1, 1, 1), -2);
            Check.same("feed of 128", x.feed(1, 1, 1, 1, 1, 128), -2);
            Check.same("setup, a", x.setup(one, 1, 8, 0), -2);
            Check.same("setup, b", x.setup(0, one, 8, 0), -2);
            Check.same("setup, c", x.setup(0, 1, one, 0), -2);
            Check.same("setup, side", x.setup(0, 1, 8, one), -2);
            Check.same("load", x.load(one), -5);
            Check.same("make", x.make(one), -1);
            Check.same("undo", x.undo(), -3);
            Check.text("the state behind " + one, state(x), before);
        }
        Check.same("setup of what is not possible", x.setup(0, 0, 8, 0), -5);
        Check.text("the state", state(x), before);
        while (x.back() > 0) Check.holds("moves are left", x.count(0) > 0);
        String beginning = state(x);
        Check.same("back", x.back(), -3);
        Check.text("the state at the beginning", state(x), beginning);
        EndgameTable none = new EndgameTable();
        String empty = state(none);
        Check.same("setup without a game", none.setup(0, 1, 8, 0), -3);
        Check.same("load without a game", none.load(0), -3);
        Check.same("make without a position", none.make(0), -3);
        Check.same("back without a position", none.back(), -3);
        Check.same("undo without a snapshot", none.undo(), -3);
        Check.text("the state of a new object", state(none), empty);
    }

    /** Questions do not change the state. */
    private static void questionsChangeNothing() {
        EndgameTable x = playing();
        x.feed(4, '2', '2', ';', 'w', 0);
        String before = state(x);
        for (int what = -2; what <= 14; what++) {
            ask(x, what);
            Check.text("the state behind " + what, state(x), before);
        }
        ask(x, LEAST);
        ask(x, GREATEST);
        Check.same("there is no snapshot yet", x.undo(), -3);
        Check.same("image", x.image(), 1);
        Check.text("a snapshot changes nothing else", state(x), before);
        Check.same("undo", x.undo(), 1);
        Check.text("and brings the same", state(x), before);
        x.feed(2, '-', 'f', 0, 0, 0);
        Check.same("the bytes on the tape are the same, too", x.define(), 4);
    }

    private static void ask(EndgameTable x, int what) {
        x.game(what);
        x.board(what);
        x.best();
        x.line(what);
        x.search(what);
        x.unlike();
        x.count(what);
        x.zugzwang(what);
        for (int other = -2; other <= 7; other++) {
            x.move(what, other);
            x.longest(what, other);
            for (int third = -2; third <= 3; third++) {
                x.positions(what, other, third);
                x.spread(what, other, third);
            }
        }
    }

    /** FULL if 40 moves are made and not taken back. */
    private static void fullGames() {
        EndgameTable x = Check.of("22;f-f");
        x.load(18);
        for (int i = 1; i <= 39; i++) x.make(0);
        Check.same("the fortieth", x.make(0), 11);
        for (int round = 0; round < 3; round++) {
            Check.same("the next", x.make(0), -4);
            Check.same("taken back", x.back(), 39);
            Check.same("the fortieth again", x.make(0), 11);
        }
    }

    /** Puts a position on the board, with which a game begins. */
    private static void gamesBeginAnew() {
        EndgameTable x = Check.of("22;f-f");
        for (int kind = 0; kind < 2; kind++) {
            x.load(18);
            for (int i = 0; i < 40; i++) x.make(0);
            if (kind == 0) Check.same("setup", x.setup(0, 1, -1, 0), 18);
            else Check.same("load", x.load(18), 0);
            int[] want = {0, 0, 1, 1, 0};
            for (int what = 0; what < 5; what++) Check.same("count(" + what + ")", x.count(what), want[what]);
            Check.same("no move to take back", x.back(), -3);
            Check.same("a move can be made", x.make(0), 1);
        }
        x.make(0);
        Check.same("a refused setup begins none", x.setup(0, 0, -1, 0), -5);
        Check.same("nor does a refused load", x.load(-1), -5);
        Check.same("the moves stay", x.count(0), 2);
    }

    /** The moves since the latest capture in this game, or since its beginning. */
    private static void beginningWithACapturedMan() {
        EndgameTable x = Check.of("33;kr-k");
        Check.holds("the rook is captured before the game", x.setup(0, -1, 8, 0) >= 0);
        Check.same("no move", x.count(4), 0);
        x.make(0);
        x.make(0);
        Check.same("two moves", x.count(4), 2);
    }

    /** The snapshot contains the game, the board and the moves made on it: forty, too. */
    private static void fullSnapshot() {
        EndgameTable x = Check.of("22;f-f");
        x.load(18);
        for (int i = 0; i < 40; i++) x.make(0);
        Check.same("image", x.image(), 1);
        Check.define(x, "33;kr-k");
        Check.same("undo", x.undo(), 1);
        Check.same("moves", x.count(0), 40);
        Check.same("occurrences", x.count(2), 11);
        Check.same("FULL", x.make(0), -4);
        for (int i = 39; i >= 0; i--) Check.same("back", x.back(), i);
        Check.same("none is left", x.back(), -3);
        Check.same("undo again", x.undo(), 1);
        Check.same("moves again", x.count(0), 40);
    }

    /** A game in which three moves are made. */
    private static EndgameTable playing() {
        EndgameTable x = Check.of("33;kr-k;m4");
        x.setup(0, 1, 8, 0);
        for (int i = 0; i < 3; i++) x.make(x.board(7) - 1);
        return x;
    }

    /** What can be asked of an object, as a text. */
    private static String state(EndgameTable x) {
        StringBuilder text = new StringBuilder();
        for (int what = 0; what < 5; what++) text.append(x.count(what)).append(' ');
        for (int what = 0; what < 13; what++) text.append(x.game(what)).append(' ').append(x.board(what)).append(' ');
        text.append(x.best()).append(' ').append(x.line(-1)).append(' ').append(x.line(1)).append(' ');
        text.append(x.search(4)).append(' ').append(x.positions(0, 1, 2)).append(' ').append(x.longest(1, 1));
        return text.append(' ').append(x.zugzwang(-1)).append(' ').append(x.unlike()).toString();
    }
}
