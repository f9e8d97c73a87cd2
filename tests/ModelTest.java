import java.util.ArrayList;
import java.util.List;
import java.util.Random;

/** Long runs of chosen and wild calls, each answered by the program and by the model; every seed is fixed. */
public final class ModelTest {
    private static final int RUNS = 400, CALLS = 512;
    private static final int[] WILD = {Integer.MIN_VALUE, Integer.MAX_VALUE, -1, -2, -3, 13, 99, 4394, -100, 1 << 30};
    private static final String[] SIZES = {"22", "23", "24", "25", "26", "32", "33", "34", "42", "43", "52", "62"};
    private static final String[] KNOWN = {"34;kr-k", "33;k-kp;l;m5", "33;kp-k;w", "42;qn-k;x3,4;m2", "33;rb-n",
        "62;a-dd;w", "43;kq-k;m3", "26;kr-k;l", "34;kp-p;l", "33;ww-w;w", "52;k-kk;w;m1", "33;k-q;x4", "34;kn-k;l;m0",
        "26;r-kw;x9;w", "34;q-qw;x7"};

    private final Random random;
    private final EndgameTable program = new EndgameTable();
    private final Model model = new Model();
    private final List<String> calls = new ArrayList<>();

    private ModelTest(long seed) {
        random = new Random(seed);
    }

    public static void main(String[] args) {
        for (int seed = 0; seed < RUNS; seed++) {
            ModelTest run = new ModelTest(seed);
            if (seed % 8 != 0) run.define();
            while (run.calls.size() < CALLS) run.step();
        }
        texts();
        games();
        Check.end("ModelTest");
    }

    /** All that is asked of a position, for all positions of the known games and of some more. */
    private static void games() {
        Random random = new Random(11);
        for (int i = 0; i < 80; i++) {
            String text = i < KNOWN.length ? KNOWN[i] : randomText(random);
            EndgameTable program = Check.of(text);
            Model model = new Model();
            for (char sign : text.toCharArray()) model.feed(1, sign);
            model.define();
            for (int index = 0; index < 4394; index++) {
                Check.same(text + ": load(" + index + ")", program.load(index), model.load(index));
                if (model.load(index) >= 0) position(text + " " + index, program, model);
            }
        }
    }

    private static void position(String name, EndgameTable program, Model model) {
        for (int what = 0; what <= 13; what++) {
            Check.same(name + ": board(" + what + ")", program.board(what), model.board(what));
        }
        for (int move = model.board(7); move >= 0; move--) {
            for (int what = 0; what <= 7; what++) {
                Check.same(name + ": move(" + move + ", " + what + ")", program.move(move, what), model.move(move, what));
            }
        }
        int moves = model.line(-1);
        Check.same(name + ": best()", program.best(), model.best());
        Check.same(name + ": line(-1)", program.line(-1), moves);
        Check.same(name + ": line(" + moves + ")", program.line(moves), model.line(moves));
        for (int depth = 0; depth <= 2; depth++) {
            Check.same(name + ": search(" + depth + ")", program.search(depth), model.search(depth));
        }
        Check.same(name + ": unlike()", program.unlike(), model.unlike());
    }

    /** Error positions of many texts near the form of a game, without the cost of the games themselves. */
    private static void texts() {
        Random random = new Random(7);
        EndgameTable program = new EndgameTable();
        for (int i = 0; i < 200000; i++) {
            String text = spoiled(random, randomText(random));
            int error = Model.errorPosition(text);
            if (error < 0) continue;
            Check.feed(program, text);
            Check.same("define() of " + text, program.define(), -100 - error);
        }
    }

    private static String randomText(Random random) {
        String letters = "wfknarbqdp";
        StringBuilder text = new StringBuilder(SIZES[random.nextInt(SIZES.length)]).append(';');
        int n = (text.charAt(0) - '0') * (text.charAt(1) - '0');
        int shape = random.nextInt(5);
        int men = shape == 0 ? 2 : 3, whites = shape < 3 ? 1 : 2;
        for (int man = 0; man < men; man++) {
            if (man == whites) text.append('-');
            boolean king = random.nextInt(3) == 0 && (man == 0 || man == whites);
            text.append(king ? 'k' : letters.charAt(random.nextInt(letters.length())));
        }
        for (int clauses = random.nextInt(4); clauses > 0; clauses--) {
            switch (random.nextInt(5)) {
                case 0: text.append(";d"); break;
                case 1: text.append(";l"); break;
                case 2: text.append(";w"); break;
                case 3: text.append(";m").append(random.nextInt(4) == 0 ? random.nextInt(100) : random.nextInt(8)); break;
                default:
                    text.append(";x").append(random.nextInt(n));
                    while (random.nextInt(2) == 0) text.append(',').append(random.nextInt(n));
            }
        }
        return text.length() > 40 ? randomText(random) : text.toString();
    }

    private static String spoiled(Random random, String text) {
        StringBuilder spoiled = new StringBuilder(text);
        String signs = "0123456789;;,,--xmdlwkqrbnafp z\u0001\u007f";
        for (int times = 1 + random.nextInt(2); times > 0; times--) {
            int at = random.nextInt(spoiled.length());
            char sign = signs.charAt(random.nextInt(signs.length()));
            switch (random.nextInt(4)) {
                case 0: spoiled.setLength(Math.max(1, at)); break;
                case 1: spoiled.deleteCharAt(at).append(' '); spoiled.setLength(spoiled.length() - 1); break;
                case 2: spoiled.insert(at, sign); break;
                default: spoiled.setCharAt(at, sign);
            }
            if (spoiled.length() == 0) spoiled.append(sign);
        }
        if (spoiled.length() > 40) spoiled.setLength(40);
        return spoiled.toString();
    }

    private void due(String call, int got, int want) {
        calls.add(call);
        if (got != want) System.out.println("after " + calls);
        Check.same(call, got, want);
        if (got != want) Check.end("ModelTest");
    }

    private int number(int bound) {
        return random.nextInt(25) == 0 ? WILD[random.nextInt(WILD.length)] : random.nextInt(bound + 2) - 1;
    }

    private void step() {
        switch (random.nextInt(32)) {
            case 0: if (random.nextInt(6) == 0) define(); break;
            case 1: if (random.nextInt(4) == 0) feedAnything(); break;
            case 2: setup(); break;
            case 3: load(); break;
            case 4: snapshot(); break;
            case 5: case 6: case 7: case 8: case 9: case 10: case 11: make(); break;
            case 12: due("back()", program.back(), model.back()); break;
            case 13: case 14: case 15: board(); break;
            case 16: case 17: move(); break;
            case 18: game(); break;
            case 19: due("best()", program.best(), model.best()); break;
            case 20: case 21: line(); break;
            case 22: search(); break;
            case 23: positions(); break;
            case 24: spread(); break;
            case 25: longest(); break;
            case 26: zugzwang(); break;
            case 27: due("unlike()", program.unlike(), model.unlike()); break;
            default: count();
        }
    }

    private void define() {
        if (model.count(1) > 0) due("define()", program.define(), model.define());
        String text = random.nextInt(3) == 0 ? KNOWN[random.nextInt(KNOWN.length)] : randomText(random);
        if (random.nextInt(6) == 0) text = spoiled(random, text);
        for (int i = 0; i < text.length(); i += 5) {
            int[] bytes = new int[5];
            int n = Math.min(5, text.length() - i);
            for (int k = 0; k < n; k++) bytes[k] = text.charAt(i + k);
            feed(n, bytes);
        }
        due("define()", program.define(), model.define());
        if (random.nextInt(4) > 0) snapshot();
        setup();
    }

    private void feed(int n, int[] b) {
        String call = "feed(" + n + ", " + b[0] + ", " + b[1] + ", " + b[2] + ", " + b[3] + ", " + b[4] + ")";
        due(call, program.feed(n, b[0], b[1], b[2], b[3], b[4]), model.feed(n, b));
    }

    private void feedAnything() {
        int[] bytes = new int[5];
        for (int k = 0; k < 5; k++) bytes[k] = random.nextInt(30) == 0 ? number(128) : random.nextInt(128);
        feed(number(5), bytes);
    }

    private void setup() {
        for (int tries = random.nextInt(4); tries >= 0; tries--) {
            int n = Math.max(4, model.game(0) * model.game(1));
            int a = number(n), b = number(n), c = model.game(2) == 2 && random.nextInt(5) > 0 ? -1 : number(n);
            int side = random.nextInt(20) == 0 ? number(2) : random.nextInt(2);
            String call = "setup(" + a + ", " + b + ", " + c + ", " + side + ")";
            due(call, program.setup(a, b, c, side), model.setup(a, b, c, side));
        }
    }

    private void load() {
        int index = number(4400);
        if (random.nextInt(3) > 0 && model.game(8) > 0) index = random.nextInt(model.game(2) == 2 ? 4394 : 3000);
        due("load(" + index + ")", program.load(index), model.load(index));
    }

    private void snapshot() {
        if (random.nextInt(3) == 0) due("image()", program.image(), model.image());
        else if (random.nextInt(3) == 0) due("undo()", program.undo(), model.undo());
    }

    private void make() {
        int moves = Math.max(1, model.board(7));
        int move = random.nextInt(12) == 0 ? number(moves) : random.nextInt(moves);
        if (random.nextInt(4) == 0) move = model.best();
        due("make(" + move + ")", program.make(move), model.make(move));
    }

    private void board() {
        int what = number(13);
        due("board(" + what + ")", program.board(what), model.board(what));
    }

    private void move() {
        int move = number(Math.max(1, model.board(7))), what = number(7);
        due("move(" + move + ", " + what + ")", program.move(move, what), model.move(move, what));
    }

    private void game() {
        int what = number(14);
        due("game(" + what + ")", program.game(what), model.game(what));
    }

    private void line() {
        int k = random.nextInt(3) == 0 ? -1 : number(12);
        due("line(" + k + ")", program.line(k), model.line(k));
    }

    private void search() {
        int depth = number(5);
        due("search(" + depth + ")", program.search(depth), model.search(depth));
    }

    private void positions() {
        int side = number(2), value = number(2) - (random.nextInt(2)), captured = number(3);
        String call = "positions(" + side + ", " + value + ", " + captured + ")";
        due(call, program.positions(side, value, captured), model.positions(side, value, captured));
    }

    private void spread() {
        int kind = number(2), side = number(2), distance = number(12);
        String call = "spread(" + kind + ", " + side + ", " + distance + ")";
        due(call, program.spread(kind, side, distance), model.spread(kind, side, distance));
    }

    private void longest() {
        int kind = number(2), what = number(2);
        due("longest(" + kind + ", " + what + ")", program.longest(kind, what), model.longest(kind, what));
    }

    private void zugzwang() {
        int i = number(6);
        due("zugzwang(" + i + ")", program.zugzwang(i), model.zugzwang(i));
    }

    private void count() {
        int what = number(5);
        due("count(" + what + ")", program.count(what), model.count(what));
    }
}
