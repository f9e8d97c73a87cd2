/** Promises 19 and 20: snapshots, which keep the game, the board and its moves, but not the tape. */
public final class SnapshotTest {
    public static void main(String[] args) {
        withoutGame();
        withoutPosition();
        keepsMoves();
        keepsGames();
        inPlaceOfAnEarlierOne();
        Check.end("SnapshotTest");
    }

    private static void withoutGame() {
        EndgameTable x = new EndgameTable();
        Check.same("no snapshot", x.undo(), -3);
        Check.same("image", x.image(), 0);
        Check.define(x, "22;w-f");
        x.load(38);
        Check.same("undo", x.undo(), 0);
        Check.same("no game", x.game(0), -3);
        Check.same("no position", x.board(0), -3);
        Check.same("no game to set up", x.setup(0, 3, -1, 0), -3);
        Check.same("a game again", Check.define(x, "22;w-f"), 4);
        Check.same("its index", x.setup(0, 3, -1, 0), 38);
        Check.same("it stays", x.undo(), 0);
    }

    private static void withoutPosition() {
        EndgameTable x = Check.of("22;f-f");
        Check.same("image", x.image(), 1);
        x.load(18);
        Check.same("undo", x.undo(), 1);
        Check.same("the game", x.game(8), 16);
        Check.same("no position", x.board(0), -3);
        Check.same("none was made", x.count(3), 0);
    }

    private static void keepsMoves() {
        EndgameTable x = Check.of("22;f-f");
        x.load(18);
        for (int i = 0; i < 5; i++) x.make(0);
        x.feed(3, 1, 2, 3, 0, 0);
        Check.same("image", x.image(), 1);
        x.feed(2, 1, 2, 0, 0, 0);
        for (int i = 0; i < 4; i++) x.back();
        Check.same("one is left", x.count(0), 1);
        Check.same("undo", x.undo(), 1);
        Check.same("moves", x.count(0), 5);
        Check.same("occurrences", x.count(2), 2);
        Check.same("the tape is no part of it", x.count(1), 5);
        Check.same("back", x.back(), 4);
        Check.same("at the beginning of a round", x.board(0), 18);
        x.load(118);
        Check.same("it stays", x.undo(), 1);
        Check.same("moves again", x.count(0), 5);
    }

    private static void keepsGames() {
        EndgameTable x = Check.of("34;kr-k");
        x.load(x.longest(0, 1));
        int moves = x.line(-1), first = x.line(1), possible = x.game(8);
        x.image();
        String[] others = {"22;w-f", "33;k-kp;l;m5", "33;kq-k;x4", "43;kr-k"};
        for (String other : others) {
            Check.define(x, other);
            Check.define(x, "33;rb-n");
            x.load(54);
            x.make(0);
            Check.same("undo behind " + other, x.undo(), 1);
            Check.same("its height", x.game(1), 4);
            Check.same("its positions", x.game(8), possible);
            Check.same("its line", x.line(-1), moves);
            Check.same("the line's first", x.line(1), first);
            Check.same("its statistics", x.positions(0, 1, 0), 402);
            Check.same("moves", x.count(0), 0);
        }
    }

    private static void inPlaceOfAnEarlierOne() {
        EndgameTable x = Check.of("22;f-f");
        x.load(18);
        x.image();
        Check.define(x, "22;w-f");
        x.load(38);
        Check.same("image", x.image(), 1);
        Check.define(x, "33;k-k");
        Check.same("undo", x.undo(), 1);
        Check.same("the later one", x.board(0), 38);
        Check.same("its value", x.board(2), 1);
        Check.define(x, "34;k-k;");
        Check.same("a wrong text leaves the game", x.board(3), 1);
        x.make(0);
        x.image();
        x.back();
        Check.same("undo", x.undo(), 1);
        Check.same("the latest", x.board(0), 89);
        Check.same("its moves", x.count(0), 1);
    }
}
