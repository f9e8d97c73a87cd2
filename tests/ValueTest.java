/** Promises 11, 12 and 14 to 18: best moves and lines, and what is asked of all positions of a game. */
public final class ValueTest {
    public static void main(String[] args) {
        bestMoves();
        bestLines();
        longLines();
        numbers();
        numbersRefuse();
        spreads();
        greatest();
        zugzwangs();
        conversions();
        unlikes();
        Check.end("ValueTest");
    }

    private static void bestMoves() {
        EndgameTable x = Check.of("22;w-f");
        Check.same("no position", x.best(), -3);
        x.load(38);
        Check.same("the first of two", x.best(), 0);
        x.load(89);
        Check.same("an end", x.best(), -5);
        EndgameTable stale = Check.of("22;w-w");
        stale.load(38);
        Check.same("a drawn end", stale.best(), -5);
        followsDistances("34;kr-k");
        followsDistances("33;kp-k;w");
        followsDistances("43;kq-k;m3");
        followsDistances("23;f-nw;w");
    }

    /** Of all positions: the best move keeps the value, and no move before it is as good, none behind it better. */
    private static void followsDistances(String text) {
        EndgameTable x = Check.of(text);
        for (int index = 0; index < 4394; index++) {
            if (x.load(index) < 0 || x.board(7) == 0) continue;
            int value = x.board(2), best = x.best(), to = x.move(best, 4);
            Check.same(text + " " + index + ": value behind best", x.move(best, 3), -value);
            if (value != 0) Check.same(text + " " + index + ": distance behind best", to, x.board(3) - 1);
            for (int move = 0; move < x.board(7); move++) {
                if (x.move(move, 3) != -value) continue;
                int gain = value == 0 ? 0 : value * (to - x.move(move, 4));
                Check.holds(text + " " + index + ": move " + move, move < best ? gain < 0 : gain <= 0);
            }
        }
    }

    private static void bestLines() {
        EndgameTable x = Check.of("22;w-f");
        Check.same("no position", x.line(0), -3);
        x.load(38);
        Check.same("its moves", x.line(-1), 1);
        Check.same("its end", x.line(1), 89);
        int[] none = {0, 2, -2, 60, 61, 99, Integer.MIN_VALUE, Integer.MAX_VALUE};
        for (int k : none) Check.same("line(" + k + ")", x.line(k), -1);
        x.load(89);
        Check.same("no moves at an end", x.line(-1), 0);
        Check.same("nor positions", x.line(1), -1);
        EndgameTable round = Check.of("22;f-f");
        round.load(18);
        Check.same("up to where it would be at its beginning", round.line(-1), 3);
        Check.same("after one", round.line(1), ((3 * 5 + 1) * 5 + 4) * 2 + 1);
        Check.same("after two", round.line(2), ((3 * 5 + 2) * 5 + 4) * 2);
        Check.same("after three", round.line(3), ((0 * 5 + 2) * 5 + 4) * 2 + 1);
        Check.same("after four", round.line(4), -1);
        round.make(0);
        Check.same("moves made before do not end it", round.line(-1), 3);
        Check.same("the board stays", round.count(0), 1);
    }

    /** A best line is as long as the distance to the end, and is what making the best moves gives. */
    private static void longLines() {
        EndgameTable x = Check.of("34;kr-k");
        Check.same("the lowest of the longest", x.load(x.longest(0, 1)), x.longest(0, 1) & 1);
        Check.same("its length", x.line(-1), x.board(3));
        int moves = x.line(-1);
        int[] line = new int[moves + 1];
        for (int k = 1; k <= moves; k++) line[k] = x.line(k);
        for (int k = 1; k <= moves; k++) {
            x.make(x.best());
            Check.same("after " + k, x.board(0), line[k]);
        }
        Check.same("an end", x.board(7), 0);
        EndgameTable drawn = Check.of("26;r-kw;x9;w");
        drawn.load(2649);
        Check.same("a long drawn line", drawn.line(-1), 57);
        Check.holds("its last position", drawn.line(57) >= 0);
        Check.same("none behind it", drawn.line(58), -1);
    }

    /** White's alfil never moves: beside a wazir it is lost, on a diagonal with one it is stalemate. */
    private static void numbers() {
        EndgameTable x = Check.of("22;a-ww");
        int[][] want = {
            {0, -1, 24, 8, 32}, {0, 0, 0, 4, 4}, {0, 1, 0, 0, 0}, {1, -1, 0, 0, 0}, {1, 0, 0, 0, 0}, {1, 1, 0, 4, 4}};
        for (int[] row : want) {
            for (int captured = 0; captured < 3; captured++) {
                String call = "positions(" + row[0] + ", " + row[1] + ", " + captured + ")";
                Check.same(call, x.positions(row[0], row[1], captured), row[2 + captured]);
            }
        }
        Check.same("all", x.game(8), 40);
        EndgameTable two = Check.of("22;w-f");
        Check.same("a man that does not exist is not captured", two.positions(0, 1, 1), 0);
        Check.same("all men", two.positions(0, 1, 0), 4);
        Check.same("lost", two.positions(1, -1, 2), 8);
    }

    private static void numbersRefuse() {
        EndgameTable x = Check.of("22;w-f");
        int[] wild = {-2, 3, 99, Integer.MIN_VALUE, Integer.MAX_VALUE};
        for (int one : wild) {
            Check.same("side " + one, x.positions(one, 0, 0), -1);
            Check.same("value " + one, x.positions(0, one, 0), -1);
            Check.same("captured " + one, x.positions(0, 0, one), -1);
            Check.same("spread kind " + one, x.spread(one, 0, 0), -1);
            Check.same("spread side " + one, x.spread(0, one, 0), -1);
            Check.same("longest kind " + one, x.longest(one, 0), -1);
            Check.same("longest what " + one, x.longest(0, one), -1);
        }
        Check.same("side -1", x.positions(-1, 0, 0), -1);
        Check.same("side 2", x.positions(2, 0, 0), -1);
        Check.same("value 2", x.positions(0, 2, 0), -1);
        Check.same("captured -1", x.positions(0, 0, -1), -1);
        Check.same("spread kind 2", x.spread(2, 0, 0), -1);
        Check.same("spread side 2", x.spread(0, 2, 0), -1);
        Check.same("spread kind -1", x.spread(-1, 0, 0), -1);
        Check.same("NONE before BAD", x.spread(0, -1, -1), -1);
        Check.same("BAD", x.spread(0, 0, -1), -2);
        Check.same("BAD, least", x.spread(1, 1, Integer.MIN_VALUE), -2);
        Check.same("longest kind 2", x.longest(2, 0), -1);
        Check.same("longest what 2", x.longest(0, 2), -1);
        Check.same("longest what -1", x.longest(0, -1), -1);
        Check.same("NONE before -5", Check.of("22;f-f").longest(0, 2), -1);
    }

    private static void spreads() {
        EndgameTable x = Check.of("22;w-f");
        for (int kind = 0; kind < 2; kind++) {
            Check.same("won in one", x.spread(kind, 0, 1), 4);
            Check.same("no White lost", x.spread(kind, 0, 0), 0);
            Check.same("lost ends", x.spread(kind, 1, 0), 8);
            Check.same("none farther", x.spread(kind, 1, 2), 0);
            Check.same("far", x.spread(kind, 0, Integer.MAX_VALUE), 0);
        }
        Check.same("drawn ends have no distance", Check.of("22;w-w").spread(0, 0, 0), 0);
        Check.same("won ends have 0", Check.of("22;w-w;w").spread(0, 0, 0), 4);
        Check.same("to conversion, too", Check.of("22;w-w;l").spread(1, 1, 0), 4);
        addUp("34;kr-k");
        addUp("43;kq-k;x5;m2");
    }

    private static void addUp(String text) {
        EndgameTable x = Check.of(text);
        for (int kind = 0; kind < 2; kind++) {
            for (int side = 0; side < 2; side++) {
                int sum = 0;
                for (int distance = 0; distance <= x.longest(kind, 0); distance++) sum += x.spread(kind, side, distance);
                Check.same(text + ": the decided ones", sum, x.positions(side, 1, 2) + x.positions(side, -1, 2));
            }
        }
    }

    private static void greatest() {
        EndgameTable x = Check.of("22;w-f");
        for (int kind = 0; kind < 2; kind++) {
            Check.same("greatest", x.longest(kind, 0), 1);
            Check.same("the lowest with it", x.longest(kind, 1), 38);
        }
        Check.same("all drawn", Check.of("22;f-f").longest(0, 0), -5);
        Check.same("no index", Check.of("22;f-f").longest(1, 1), -5);
        Check.same("lost ends alone", Check.of("22;w-w;l").longest(0, 0), 0);
        Check.same("the lowest of them", Check.of("22;w-w;l").longest(0, 1), 38);
        Check.same("the wazirs'", Check.of("22;a-ww").longest(0, 1), ((0 * 5 + 3) * 5 + 4) * 2 + 1);
    }

    /** Two wazirs on a diagonal are both stalemate: who moves is lost, with l. */
    private static void zugzwangs() {
        EndgameTable x = Check.of("22;w-w;l");
        Check.same("their number", x.zugzwang(-1), 4);
        int[] want = {38, 78, 118, 158};
        for (int i = 0; i < 4; i++) Check.same("zugzwang(" + i + ")", x.zugzwang(i), want[i]);
        int[] none = {4, -2, 99, Integer.MIN_VALUE, Integer.MAX_VALUE};
        for (int i : none) Check.same("zugzwang(" + i + ")", x.zugzwang(i), -1);
        Check.same("won stalemates are none", Check.of("22;w-w;w").zugzwang(-1), 0);
        Check.same("drawn ones neither", Check.of("22;w-w").zugzwang(-1), 0);
        Check.same("nor what is possible with one side alone", Check.of("22;w-f").zugzwang(-1), 0);
        Check.same("better if White moves", Check.of("22;a-ww").zugzwang(-1), 0);
        zugzwangsFit("33;k-kp;l;m5");
        zugzwangsFit("33;kp-k;w");
        zugzwangsFit("34;kr-k");
    }

    private static void zugzwangsFit(String text) {
        EndgameTable x = Check.of(text);
        int found = 0;
        for (int index = 0; index < 4394; index += 2) {
            if (x.load(index) < 0) continue;
            int white = x.board(2);
            if (x.load(index + 1) < 0 || white >= -x.board(2)) continue;
            Check.same(text + ": zugzwang(" + found + ")", x.zugzwang(found), index);
            found++;
        }
        Check.same(text + ": their number", x.zugzwang(-1), found);
        Check.same(text + ": none behind the last", x.zugzwang(found), -1);
    }

    /** A capture or an end is a conversion; the numbers are checked move by move. */
    private static void conversions() {
        fits("34;kr-k");
        fits("42;qn-k;x3,4;m2");
        fits("33;k-kp;l;m5");
        fits("33;kq-r;w");
        EndgameTable x = Check.of("42;qn-k;x3,4;m2");
        Check.same("to the end", x.longest(0, 0), 4);
        Check.same("to conversion", x.longest(1, 0), 3);
    }

    private static void fits(String text) {
        EndgameTable x = Check.of(text), behind = Check.of(text);
        for (int index = 0; index < 4394; index++) {
            if (x.load(index) < 0 || x.board(2) == 0) continue;
            int value = x.board(2), least = 9999, greatest = -1;
            for (int move = 0; move < x.board(7); move++) {
                if (x.move(move, 3) != -value) continue;
                behind.load(x.move(move, 6));
                int number = x.move(move, 2) >= 0 || behind.board(7) == 0 ? 0 : x.move(move, 5);
                least = Math.min(least, number);
                greatest = Math.max(greatest, number);
            }
            int want = x.board(7) == 0 ? 0 : 1 + (value > 0 ? least : greatest);
            Check.same(text + " " + index + ": conversion", x.board(4), want);
            int verdict = x.game(6) >= 0 && want > x.game(6) ? 0 : value;
            Check.same(text + " " + index + ": verdict", x.board(5), verdict);
        }
    }

    private static void unlikes() {
        EndgameTable x = Check.of("33;rb-n");
        Check.same("no position", x.unlike(), -3);
        for (int index = 0; index < 2000; index++) {
            if (x.load(index) >= 0) Check.same(index + ": unlike", x.unlike(), 0);
        }
        Check.same("the board stays", x.count(0), 0);
    }
}
