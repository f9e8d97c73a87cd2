/** Promises 1 to 4: a new object, the tape, the texts of games and the properties of a game. */
public final class TextTest {
    private static final String LETTERS = "wfknarbqdp";

    public static void main(String[] args) {
        newObject();
        feedCounts();
        feedRefuses();
        feedIsFull();
        errorPositions();
        goodTexts();
        wrongTextChangesTheTapeAlone();
        gameTells();
        gameRefuses();
        symmetries();
        Check.end("TextTest");
    }

    private static void newObject() {
        EndgameTable x = new EndgameTable();
        Check.same("NONE", EndgameTable.NONE, -1);
        Check.same("BAD", EndgameTable.BAD, -2);
        Check.same("STATE", EndgameTable.STATE, -3);
        Check.same("FULL", EndgameTable.FULL, -4);
        for (int what = -1; what <= 5; what++) {
            Check.same("new: count(" + what + ")", x.count(what), what < 0 || what > 4 ? -1 : 0);
            Check.same("new: game(" + what + ")", x.game(what), -3);
            Check.same("new: board(" + what + ")", x.board(what), -3);
        }
        Check.same("new: setup, BAD too", x.setup(-9, 0, 0, 5), -3);
        Check.same("new: load", x.load(38), -3);
        Check.same("new: move", x.move(0, 99), -3);
        Check.same("new: make", x.make(0), -3);
        Check.same("new: back", x.back(), -3);
        Check.same("new: best", x.best(), -3);
        Check.same("new: line", x.line(0), -3);
        Check.same("new: search", x.search(9), -3);
        Check.same("new: positions", x.positions(5, 5, 5), -3);
        Check.same("new: spread", x.spread(5, 5, -5), -3);
        Check.same("new: longest", x.longest(5, 5), -3);
        Check.same("new: zugzwang", x.zugzwang(-5), -3);
        Check.same("new: unlike", x.unlike(), -3);
        Check.same("new: undo", x.undo(), -3);
        Check.same("new: define", x.define(), -100);
        Check.same("new: image", x.image(), 0);
    }

    private static void feedCounts() {
        EndgameTable x = new EndgameTable();
        Check.same("feed one", x.feed(1, '2', 9, 9, 9, 9), 1);
        Check.same("feed two", x.feed(2, '2', ';', 9, 9, 9), 3);
        Check.same("feed three", x.feed(3, 'w', '-', 'f', 9, 9), 6);
        Check.same("count(1)", x.count(1), 6);
        Check.same("define of what was fed in parts", x.define(), 4);
        Check.same("feed four", x.feed(4, 0, 127, 0, 127, 9), 4);
        Check.same("feed five", x.feed(5, 0, 0, 0, 0, 0), 9);
    }

    private static void feedRefuses() {
        EndgameTable x = new EndgameTable();
        int[] numbers = {0, -1, 6, Integer.MIN_VALUE, Integer.MAX_VALUE};
        for (int n : numbers) Check.same("feed(" + n + ")", x.feed(n, 50, 50, 50, 50, 50), -2);
        int[] wrong = {-1, 128, Integer.MIN_VALUE, Integer.MAX_VALUE};
        for (int b : wrong) {
            Check.same("a " + b, x.feed(1, b, 50, 50, 50, 50), -2);
            Check.same("b " + b, x.feed(1, 50, b, 50, 50, 50), -2);
            Check.same("c " + b, x.feed(1, 50, 50, b, 50, 50), -2);
            Check.same("d " + b, x.feed(1, 50, 50, 50, b, 50), -2);
            Check.same("e " + b, x.feed(1, 50, 50, 50, 50, b), -2);
        }
        Check.same("nothing was appended", x.count(1), 0);
    }

    private static void feedIsFull() {
        EndgameTable x = new EndgameTable();
        for (int i = 1; i <= 7; i++) Check.same("feed " + i, x.feed(5, 1, 1, 1, 1, 1), 5 * i);
        Check.same("to 38", x.feed(3, 1, 1, 1, 1, 1), 38);
        Check.same("past 40", x.feed(3, 1, 1, 1, 1, 1), -4);
        Check.same("none is appended", x.count(1), 38);
        Check.same("to 40", x.feed(2, 1, 1, 1, 1, 1), 40);
        Check.same("to 41", x.feed(1, 1, 1, 1, 1, 1), -4);
        Check.same("BAD before FULL", x.feed(1, 1, 1, 1, 1, 128), -2);
        Check.same("BAD before FULL, n", x.feed(6, 1, 1, 1, 1, 1), -2);
    }

    private static void errorPositions() {
        wrong("", 0, "1", 0, "7", 0, "k", 0, " 34;k-k", 0, "2", 1, "6", 1, "21", 1, "27", 1, "2;", 1);
        wrong("35", 1, "36", 1, "44", 1, "53", 1, "63", 1, "45;k-k", 1);
        wrong("26", 2, "34", 2, "43", 2, "52", 2, "62", 2, "34k", 2, "34-", 2);
        wrong("34;", 3, "34;-", 3, "34;;", 3, "34;K-k", 3, "34;3", 3, "34;k", 4, "34;k;", 4, "34;ki", 4, "34;kk", 5);
        wrong("34;k-", 5, "34;k--", 5, "34;k-;", 5, "34;k-z", 5);
        wrong("34;kkk", 6, "34;kkk;", 6, "34;kkkk", 6, "34;kkk-", 7, "34;kkk-k", 7, "34;kkk-;", 7);
        wrong("34;kk-", 6, "34;kk-kk", 7, "34;k-kkk", 7, "34;k-kk-", 7, "34;k-k-", 6, "34;k-kz", 6, "34;k-k3", 6);
        wrong("34;k-k;", 7, "34;k-k;k", 7, "34;k-k;;", 7, "34;k-k;5", 7, "34;k-k;dl", 8, "34;k-k;d;", 9);
        wrong("34;k-k;x", 8, "34;k-k;x;", 8, "34;k-k;x,", 8, "34;k-k;xd", 8, "34;k-k;x1,", 10, "34;k-k;x1,,", 10);
        wrong("34;k-k;x12", 8, "34;k-k;x99", 8, "34;k-k;x3,12", 10, "34;k-k;x1d", 9, "34;k-k;x1;", 10);
        wrong("34;k-k;x00", 9, "34;k-k;x01", 9, "34;k-k;x1,05", 11, "34;k-k;x110", 10, "34;k-k;x120", 8);
        wrong("22;k-k;x4", 8, "22;k-k;x10", 8, "22;k-k;x3,4", 10, "33;k-k;x9", 8, "33;k-k;x10", 8);
        wrong("34;k-k;m", 8, "34;k-k;m;", 8, "34;k-k;mm", 8, "34;k-k;m00", 9, "34;k-k;m01", 9, "34;k-k;m100", 10);
        wrong("34;k-k;m1,2", 9, "34;k-k;m1;", 10, "34;k-k\u0000", 6, "34;k-k;x1\u007f", 9);
        wrong("34;k-kk;x0,1,2,3,4,5,6,7,8,9,10,11;m99;x", 40, "34;k-kk;x0,1,2,3,4,5,6,7,8,9,10,11;m99;z", 39);
    }

    private static void wrong(Object... pairs) {
        EndgameTable x = new EndgameTable();
        for (int i = 0; i + 1 < pairs.length; i += 2) {
            Check.same("wrong text " + pairs[i], Check.define(x, (String) pairs[i]), -100 - (Integer) pairs[i + 1]);
            Check.same("the tape after " + pairs[i], x.count(1), 0);
        }
    }

    private static void goodTexts() {
        EndgameTable x = new EndgameTable();
        Check.same("least board", Check.define(x, "22;k-k"), 4);
        Check.same("62", Check.define(x, "62;k-kk;d"), 12);
        Check.same("26", Check.define(x, "26;kk-k;l"), 12);
        Check.same("a hole told twice", Check.define(x, "34;k-k;x0,0;x0,1"), 10);
        Check.same("square 11", Check.define(x, "34;k-k;x11"), 11);
        Check.same("all clauses", Check.define(x, "52;p-d;m0;w;l;d;m10;x9"), 9);
        Check.same("forty bytes, holes alone", Check.define(x, "34;k-kk;x0,1,2,3,4,5,6,7,8,9,10,11;m99;d"), 0);
        Check.same("no positions", x.game(8), 0);
        Check.same("no greatest distance", x.longest(0, 0), -5);
        Check.same("the tape is empty", x.count(1), 0);
    }

    private static void wrongTextChangesTheTapeAlone() {
        EndgameTable x = Check.of("22;w-f");
        Check.same("setup", x.setup(0, 3, -1, 0), 38);
        Check.same("make", x.make(1), 1);
        Check.same("wrong text", Check.define(x, "34;k-k;"), -107);
        Check.same("the game stays", x.game(0), 2);
        Check.same("the board stays", x.board(0), 139);
        Check.same("the moves stay", x.count(0), 1);
        Check.same("another game", Check.define(x, "33;k-k"), 9);
        Check.same("it is there", x.game(0), 3);
        Check.same("the board is empty", x.board(0), -3);
        Check.same("no occurrences", x.count(2), 0);
        Check.same("no positions of a game", x.count(3), 0);
    }

    private static void gameTells() {
        EndgameTable x = Check.of("43;qn-k;x3,11;w;l;m7;m0");
        int[] want = {4, 3, 3, 2, 1 << 3 | 1 << 11, -1, 0};
        for (int what = 0; what < want.length; what++) Check.same("game(" + what + ")", x.game(what), want[what]);
        Check.same("letter 0", x.game(10), Check.letter('q'));
        Check.same("letter 1", x.game(11), Check.letter('n'));
        Check.same("letter 2", x.game(12), Check.letter('k'));
        EndgameTable y = Check.of("22;w-f;l;d");
        Check.same("no limit", y.game(6), -5);
        Check.same("the last stalemate clause", y.game(5), 0);
        Check.same("two men", y.game(2), 2);
        Check.same("one of White", y.game(3), 1);
        Check.same("no holes", y.game(4), 0);
        Check.same("the possible positions of w against f", y.game(8), 12);
        Check.same("those of f against f", Check.of("22;f-f").game(8), 16);
        Check.same("those of w against w", Check.of("22;w-w").game(8), 8);
        Check.same("won stalemates", Check.of("22;w-w;d;w").game(5), 1);
        Check.same("a draw without a clause", Check.of("22;w-w").game(5), 0);
        Check.same("two digits", Check.of("22;w-w;m99").game(6), 99);
        for (int kind = 0; kind < LETTERS.length(); kind++) {
            char letter = LETTERS.charAt(kind);
            Check.same("White's " + letter, Check.of("23;" + letter + "-k").game(10), kind);
            Check.same("Black's " + letter, Check.of("23;k-k" + letter).game(12), kind);
        }
    }

    private static void gameRefuses() {
        EndgameTable x = Check.of("22;w-f");
        int[] none = {-1, 9, 12, 13, 99, Integer.MIN_VALUE, Integer.MAX_VALUE};
        for (int what : none) Check.same("game(" + what + ")", x.game(what), -1);
        Check.same("three men, game(13)", Check.of("22;w-ff").game(13), -1);
    }

    private static void symmetries() {
        Check.same("square", Check.of("33;k-k").game(7), 8);
        Check.same("oblong", Check.of("34;k-k").game(7), 4);
        Check.same("square with a pawn", Check.of("33;k-kp").game(7), 2);
        Check.same("a pawn that is White's royal man", Check.of("33;p-k").game(7), 2);
        Check.same("a pawn that is Black's", Check.of("33;k-p").game(7), 2);
        Check.same("oblong with a pawn", Check.of("43;kp-k").game(7), 2);
        Check.same("a corner", Check.of("33;k-k;x0").game(7), 2);
        Check.same("the middle", Check.of("33;k-k;x4").game(7), 8);
        Check.same("a side", Check.of("33;k-k;x1").game(7), 2);
        Check.same("two corners of a diagonal", Check.of("33;k-k;x0,8").game(7), 4);
        Check.same("half a turn alone", Check.of("42;k-k;x3,4").game(7), 2);
        Check.same("quarter turns", Check.of("33;k-k;x1,3,5,7").game(7), 8);
        Check.same("none but the one that changes nothing", Check.of("34;k-k;x0").game(7), 1);
        Check.same("a hole and a pawn", Check.of("33;k-kp;x3").game(7), 1);
        Check.same("the middle column and a pawn", Check.of("33;k-kp;x1").game(7), 2);
    }
}
