import java.util.ArrayList;
import java.util.Arrays;
import java.util.HashMap;
import java.util.HashSet;
import java.util.List;
import java.util.Map;
import java.util.Set;
import java.util.TreeMap;
import java.util.TreeSet;
import java.util.regex.Matcher;
import java.util.regex.Pattern;

/**
 * The document a second time, written as its words say and in other ways than the program: texts by patterns, values by
 * searching ever deeper, conversions by raising numbers until they fit, symmetries by composing the generating ones.
 */
final class Model {
    static final int NONE = -1, BAD = -2, STATE = -3, FULL = -4;

    /** A position: the squares of the men, -1 for a captured one. */
    static final class Spot {
        final int[] squares;
        final int side;

        Spot(int[] squares, int side) {
            this.squares = squares;
            this.side = side;
        }
    }

    static final class Move {
        final int man, to, captured, index;

        Move(int man, int to, int captured, int index) {
            this.man = man;
            this.to = to;
            this.captured = captured;
            this.index = index;
        }
    }

    static final class Game {
        int width, height, n, whites, stalemate, limit = -5;
        String letters;
        final Set<Integer> holes = new TreeSet<>();
        final List<int[]> symmetries = new ArrayList<>();
        final TreeMap<Integer, Spot> spots = new TreeMap<>();
        final Map<Integer, List<Move>> moves = new HashMap<>();
        final Map<Integer, Integer> values = new HashMap<>(), ends = new HashMap<>(), conversions = new HashMap<>();

        int sideOf(int man) {
            return man < whites ? 0 : 1;
        }

        int indexOf(Spot spot) {
            int sum = 0;
            for (int man = 0; man < 3; man++) {
                int square = man < letters.length() && spot.squares[man] >= 0 ? spot.squares[man] : n;
                sum = sum * (n + 1) + square;
            }
            return sum * 2 + spot.side;
        }

        boolean inside(int x, int y) {
            return x >= 0 && x < width && y >= 0 && y < height;
        }

        int manAt(Spot spot, int square) {
            for (int man = 0; man < letters.length(); man++) if (spot.squares[man] == square) return man;
            return -1;
        }

        /** The squares to which a man could go, capturing or not; with all, also those that it only strikes. */
        TreeSet<Integer> targets(Spot spot, int man, boolean all) {
            TreeSet<Integer> found = new TreeSet<>();
            int x = spot.squares[man] % width, y = spot.squares[man] / width;
            char letter = letters.charAt(man);
            if (letter == 'p') {
                int ahead = sideOf(man) == 0 ? y + 1 : y - 1;
                if (!all && inside(x, ahead) && manAt(spot, ahead * width + x) < 0) found.add(ahead * width + x);
                for (int side : new int[] {x - 1, x + 1}) {
                    if (!inside(side, ahead)) continue;
                    int other = manAt(spot, ahead * width + side);
                    if (all || other >= 0 && sideOf(other) != sideOf(man)) found.add(ahead * width + side);
                }
            } else {
                for (int dx = -2; dx <= 2; dx++) {
                    for (int dy = -2; dy <= 2; dy++) {
                        if (dx == 0 && dy == 0) continue;
                        String kind = "" + Math.min(Math.abs(dx), Math.abs(dy)) + Math.max(Math.abs(dx), Math.abs(dy));
                        if (leaps(letter).contains(kind) && inside(x + dx, y + dy)) found.add((y + dy) * width + x + dx);
                        if (!rides(letter).contains(kind)) continue;
                        int u = x + dx, v = y + dy;
                        while (inside(u, v) && !holes.contains(v * width + u)) {
                            found.add(v * width + u);
                            if (manAt(spot, v * width + u) >= 0) break;
                            u += dx;
                            v += dy;
                        }
                    }
                }
            }
            found.removeAll(holes);
            if (!all) found.removeIf(to -> manAt(spot, to) >= 0 && sideOf(manAt(spot, to)) == sideOf(man));
            return found;
        }

        static List<String> leaps(char letter) {
            switch (letter) {
                case 'w': return List.of("01");
                case 'f': return List.of("11");
                case 'k': return List.of("01", "11");
                case 'n': return List.of("12");
                case 'd': return List.of("02");
                case 'a': return List.of("22");
                default: return List.of();
            }
        }

        static List<String> rides(char letter) {
            switch (letter) {
                case 'r': return List.of("01");
                case 'b': return List.of("11");
                case 'q': return List.of("01", "11");
                default: return List.of();
            }
        }

        boolean attacked(Spot spot, int side) {
            int royal = spot.squares[side == 0 ? 0 : whites];
            for (int man = 0; man < letters.length(); man++) {
                if (sideOf(man) == side || spot.squares[man] < 0) continue;
                if (targets(spot, man, true).contains(royal)) return true;
            }
            return false;
        }

        boolean possible(Spot spot) {
            if (spot.squares[0] < 0 || spot.squares[whites] < 0) return false;
            Set<Integer> seen = new HashSet<>();
            for (int man = 0; man < letters.length(); man++) {
                int square = spot.squares[man];
                if (square >= 0 && (!seen.add(square) || holes.contains(square))) return false;
            }
            return !attacked(spot, 1 - spot.side);
        }

        void solve() {
            findSymmetries();
            int men = letters.length();
            for (int a = -1; a < n; a++) for (int b = -1; b < n; b++) for (int c = -1; c < (men > 2 ? n : 0); c++) {
                for (int side = 0; side < 2; side++) {
                    Spot spot = new Spot(new int[] {a, b, c}, side);
                    if (possible(spot)) spots.put(indexOf(spot), spot);
                }
            }
            for (int index : spots.keySet()) moves.put(index, findMoves(spots.get(index)));
            findValues();
            findConversions();
        }

        List<Move> findMoves(Spot spot) {
            List<Move> found = new ArrayList<>();
            for (int man = 0; man < letters.length(); man++) {
                if (sideOf(man) != spot.side || spot.squares[man] < 0) continue;
                for (int to : targets(spot, man, false)) {
                    int other = manAt(spot, to);
                    int[] squares = spot.squares.clone();
                    if (other >= 0) squares[other] = -1;
                    squares[man] = to;
                    Spot next = new Spot(squares, 1 - spot.side);
                    if (!attacked(next, spot.side)) found.add(new Move(man, to, other < 0 ? -5 : other, indexOf(next)));
                }
            }
            return found;
        }

        boolean isEnd(int index) {
            return moves.get(index).isEmpty();
        }

        int endValue(int index) {
            Spot spot = spots.get(index);
            return attacked(spot, spot.side) ? -1 : stalemate;
        }

        /** Searches with the depths 0, 1, 2 and so on until nothing new is found. */
        private void findValues() {
            for (int index : spots.keySet()) {
                values.put(index, isEnd(index) ? endValue(index) : 0);
                if (values.get(index) != 0) ends.put(index, 0);
            }
            boolean changed = true;
            for (int depth = 1; changed; depth++) {
                changed = false;
                Map<Integer, Integer> before = new HashMap<>(values);
                for (int index : spots.keySet()) {
                    if (isEnd(index)) continue;
                    int greatest = -1;
                    for (Move move : moves.get(index)) greatest = Math.max(greatest, -before.get(move.index));
                    if (greatest == before.get(index)) continue;
                    values.put(index, greatest);
                    ends.put(index, depth);
                    changed = true;
                }
            }
        }

        private void findConversions() {
            for (int index : ends.keySet()) conversions.put(index, 0);
            boolean changed = true;
            while (changed) {
                changed = false;
                for (int index : ends.keySet()) {
                    int number = isEnd(index) ? 0 : conversionNow(index);
                    if (number != conversions.get(index)) changed = true;
                    conversions.put(index, number);
                }
            }
        }

        private int conversionNow(int index) {
            List<Integer> numbers = new ArrayList<>();
            for (Move move : moves.get(index)) {
                if (values.get(index) == 1 && values.get(move.index) != -1) continue;
                boolean converts = move.captured >= 0 || isEnd(move.index);
                numbers.add(converts ? 0 : conversions.get(move.index));
            }
            return 1 + (values.get(index) == 1 ? numbers.stream().min(Integer::compare).get()
                : numbers.stream().max(Integer::compare).get());
        }

        private void findSymmetries() {
            Set<List<Integer>> group = new HashSet<>();
            List<List<Integer>> generators = new ArrayList<>();
            List<Integer> same = new ArrayList<>(), columns = new ArrayList<>(), rows = new ArrayList<>();
            List<Integer> exchange = new ArrayList<>();
            for (int s = 0; s < n; s++) {
                same.add(s);
                columns.add(s / width * width + width - 1 - s % width);
                rows.add((height - 1 - s / width) * width + s % width);
                exchange.add(s % width * width + s / width);
            }
            boolean pawns = letters.contains("p");
            generators.add(columns);
            if (!pawns) generators.add(rows);
            if (!pawns && width == height) generators.add(exchange);
            group.add(same);
            for (int round = 0; round < 8; round++) {
                for (List<Integer> one : new ArrayList<>(group)) for (List<Integer> other : generators) {
                    List<Integer> both = new ArrayList<>();
                    for (int s = 0; s < n; s++) both.add(other.get(one.get(s)));
                    group.add(both);
                }
            }
            for (List<Integer> one : group) {
                if (holes.stream().allMatch(s -> holes.contains(one.get(s)))) {
                    symmetries.add(one.stream().mapToInt(Integer::intValue).toArray());
                }
            }
        }

        TreeSet<Integer> images(int index) {
            TreeSet<Integer> found = new TreeSet<>();
            Spot spot = spots.get(index);
            for (int[] map : symmetries) {
                int[] squares = spot.squares.clone();
                for (int man = 0; man < 3; man++) if (squares[man] >= 0) squares[man] = map[squares[man]];
                found.add(indexOf(new Spot(squares, spot.side)));
            }
            return found;
        }

        int search(int index, int depth) {
            if (isEnd(index)) return endValue(index);
            if (depth == 0) return 0;
            int greatest = -1;
            for (Move move : moves.get(index)) greatest = Math.max(greatest, -search(move.index, depth - 1));
            return greatest;
        }

        int best(int index) {
            int value = values.get(index), chosen = -5;
            List<Move> list = moves.get(index);
            for (int i = 0; i < list.size(); i++) {
                if (values.get(list.get(i).index) != -value) continue;
                if (chosen < 0) {
                    chosen = i;
                    continue;
                }
                if (value == 0) continue;
                int had = ends.get(list.get(chosen).index), has = ends.get(list.get(i).index);
                if (value == 1 ? has < had : has > had) chosen = i;
            }
            return chosen;
        }

        List<Integer> line(int index) {
            List<Integer> line = new ArrayList<>(List.of(index));
            while (line.size() <= 60) {
                int last = line.get(line.size() - 1);
                if (best(last) < 0) break;
                int next = moves.get(last).get(best(last)).index;
                if (line.contains(next)) break;
                line.add(next);
            }
            return line;
        }

        boolean someCaptured(int index) {
            Spot spot = spots.get(index);
            for (int man = 0; man < letters.length(); man++) if (spot.squares[man] < 0) return true;
            return false;
        }

        Map<Integer, Integer> distances(int kind) {
            return kind == 0 ? ends : conversions;
        }

        List<Integer> zugzwangs() {
            List<Integer> found = new ArrayList<>();
            for (int index : spots.keySet()) {
                if (index % 2 != 0 || !spots.containsKey(index + 1)) continue;
                if (values.get(index) < -values.get(index + 1)) found.add(index);
            }
            return found;
        }
    }

    private static final Map<String, Game> SOLVED = new HashMap<>();
    private static final String L = "[wfknarbqdp]", NUMBER = "(0|[1-9][0-9]?)";
    /** The sign that stands for what no text can have: a third man of White leaves no game, but is not wrong yet. */
    private static final Pattern TEXT = Pattern.compile("(2[2-6]|3[2-4]|4[23]|52|62);"
        + "(" + L + "-" + L + "{1,2}|" + L + "{2}-" + L + "|" + L + "{3}-\u0100)"
        + "(;(x" + NUMBER + "(," + NUMBER + ")*|d|l|w|m" + NUMBER + "))*");

    private final StringBuilder tape = new StringBuilder();
    private Game game, keptGame;
    private List<Integer> play = new ArrayList<>(), keptPlay;

    /** The error position of a text, or -1 if it is a game. */
    static int errorPosition(String text) {
        int viable = 0;
        while (viable < text.length() && isViable(text.substring(0, viable + 1))) viable++;
        if (viable >= 2) {
            int n = (text.charAt(0) - '0') * (text.charAt(1) - '0');
            Matcher squares = Pattern.compile("(?<=[x,])" + NUMBER).matcher(text.substring(0, viable));
            while (squares.find()) if (Integer.parseInt(squares.group()) >= n) return squares.start();
        }
        return viable == text.length() && TEXT.matcher(text).matches() ? -1 : viable;
    }

    private static boolean isViable(String prefix) {
        Matcher matcher = TEXT.matcher(prefix);
        return matcher.matches() || matcher.hitEnd();
    }

    private static Game read(String text) {
        Game game = new Game();
        game.width = text.charAt(0) - '0';
        game.height = text.charAt(1) - '0';
        game.n = game.width * game.height;
        String[] parts = text.substring(3).split(";");
        game.whites = parts[0].indexOf('-');
        game.letters = parts[0].replace("-", "");
        for (String clause : Arrays.asList(parts).subList(1, parts.length)) {
            String rest = clause.substring(1);
            switch (clause.charAt(0)) {
                case 'x': for (String square : rest.split(",")) game.holes.add(Integer.parseInt(square)); break;
                case 'm': game.limit = Integer.parseInt(rest); break;
                default: game.stalemate = "ldw".indexOf(clause.charAt(0)) - 1;
            }
        }
        game.solve();
        return game;
    }

    int feed(int n, int... bytes) {
        if (n < 1 || n > 5) return BAD;
        for (int one : bytes) if (one < 0 || one > 127) return BAD;
        if (tape.length() + n > 40) return FULL;
        for (int i = 0; i < n; i++) tape.append((char) bytes[i]);
        return tape.length();
    }

    int define() {
        String text = tape.toString();
        tape.setLength(0);
        int error = errorPosition(text);
        if (error >= 0) return -100 - error;
        game = SOLVED.computeIfAbsent(text, Model::read);
        play = new ArrayList<>();
        return game.n - game.holes.size();
    }

    int game(int what) {
        if (game == null) return STATE;
        switch (what) {
            case 0: return game.width;
            case 1: return game.height;
            case 2: return game.letters.length();
            case 3: return game.whites;
            case 4: return game.holes.stream().mapToInt(s -> 1 << s).sum();
            case 5: return game.stalemate;
            case 6: return game.limit;
            case 7: return game.symmetries.size();
            case 8: return game.spots.size();
            default: break;
        }
        if (what < 10 || what >= 10 + game.letters.length()) return NONE;
        return "wfknarbqdp".indexOf(game.letters.charAt(what - 10));
    }

    int setup(int a, int b, int c, int side) {
        if (game == null) return STATE;
        if (side != 0 && side != 1) return BAD;
        for (int square : new int[] {a, b, c}) if (square < -1 || square >= game.n) return BAD;
        if (game.letters.length() < 3 && c != -1) return BAD;
        int index = game.indexOf(new Spot(new int[] {a, b, c}, side));
        if (!game.spots.containsKey(index)) return -5;
        play = new ArrayList<>(List.of(index));
        return index;
    }

    int load(int index) {
        if (game == null) return STATE;
        if (!game.spots.containsKey(index)) return -5;
        play = new ArrayList<>(List.of(index));
        return game.spots.get(index).side;
    }

    int present() {
        return play.get(play.size() - 1);
    }

    int board(int what) {
        if (play.isEmpty()) return STATE;
        int index = present();
        Spot spot = game.spots.get(index);
        int value = game.values.get(index);
        int conversion = game.conversions.getOrDefault(index, -5);
        switch (what) {
            case 0: return index;
            case 1: return spot.side;
            case 2: return value;
            case 3: return game.ends.getOrDefault(index, -5);
            case 4: return conversion;
            case 5: return game.limit != -5 && value != 0 && conversion > game.limit ? 0 : value;
            case 6: return game.attacked(spot, spot.side) ? 1 : 0;
            case 7: return game.moves.get(index).size();
            case 8: return game.images(index).first();
            case 9: return game.images(index).size();
            default: break;
        }
        if (what < 10 || what >= 10 + game.letters.length()) return NONE;
        return spot.squares[what - 10] < 0 ? -5 : spot.squares[what - 10];
    }

    int move(int number, int what) {
        if (play.isEmpty()) return STATE;
        List<Move> list = game.moves.get(present());
        if (number < 0 || number >= list.size()) return NONE;
        Move move = list.get(number);
        switch (what) {
            case 0: return move.man;
            case 1: return move.to;
            case 2: return move.captured;
            case 3: return game.values.get(move.index);
            case 4: return game.ends.getOrDefault(move.index, -5);
            case 5: return game.conversions.getOrDefault(move.index, -5);
            case 6: return move.index;
            default: return NONE;
        }
    }

    int make(int number) {
        if (play.isEmpty()) return STATE;
        List<Move> list = game.moves.get(present());
        if (number < 0 || number >= list.size()) return NONE;
        if (play.size() == 41) return FULL;
        play.add(list.get(number).index);
        return count(2);
    }

    int back() {
        if (play.size() < 2) return STATE;
        play.remove(play.size() - 1);
        return play.size() - 1;
    }

    int best() {
        return play.isEmpty() ? STATE : game.best(present());
    }

    int line(int k) {
        if (play.isEmpty()) return STATE;
        List<Integer> line = game.line(present());
        if (k == -1) return line.size() - 1;
        return k < 1 || k >= line.size() ? NONE : line.get(k);
    }

    int search(int depth) {
        if (play.isEmpty()) return STATE;
        return depth < 0 || depth > 4 ? BAD : game.search(present(), depth);
    }

    int positions(int side, int value, int captured) {
        if (game == null) return STATE;
        if (side < 0 || side > 1 || value < -1 || value > 1 || captured < 0 || captured > 2) return NONE;
        return (int) game.spots.keySet().stream().filter(i -> i % 2 == side && game.values.get(i) == value
            && (captured == 2 || game.someCaptured(i) == (captured == 1))).count();
    }

    int spread(int kind, int side, int distance) {
        if (game == null) return STATE;
        if (kind < 0 || kind > 1 || side < 0 || side > 1) return NONE;
        if (distance < 0) return BAD;
        return (int) game.distances(kind).entrySet().stream()
            .filter(e -> e.getKey() % 2 == side && e.getValue() == distance).count();
    }

    int longest(int kind, int what) {
        if (game == null) return STATE;
        if (kind < 0 || kind > 1 || what < 0 || what > 1) return NONE;
        Map<Integer, Integer> distances = game.distances(kind);
        if (distances.isEmpty()) return -5;
        int greatest = distances.values().stream().max(Integer::compare).get();
        if (what == 0) return greatest;
        return distances.keySet().stream().filter(i -> distances.get(i) == greatest).min(Integer::compare).get();
    }

    int zugzwang(int i) {
        if (game == null) return STATE;
        List<Integer> all = game.zugzwangs();
        if (i == -1) return all.size();
        return i < 0 || i >= all.size() ? NONE : all.get(i);
    }

    int unlike() {
        if (play.isEmpty()) return STATE;
        int number = 0;
        for (int one : game.images(present())) {
            int value = game.values.get(one), told = game.search(one, 2);
            if (value != game.values.get(present()) || told != 0 && told != value) number++;
        }
        return number;
    }

    int image() {
        keptGame = game;
        keptPlay = new ArrayList<>(play);
        return game == null ? 0 : 1;
    }

    int undo() {
        if (keptPlay == null) return STATE;
        game = keptGame;
        play = new ArrayList<>(keptPlay);
        return game == null ? 0 : 1;
    }

    int count(int what) {
        switch (what) {
            case 0: return Math.max(0, play.size() - 1);
            case 1: return tape.length();
            case 2: return play.isEmpty() ? 0 : (int) play.stream().filter(i -> i == present()).count();
            case 3: return new HashSet<>(play).size();
            case 4: return sinceCapture();
            default: return NONE;
        }
    }

    private int sinceCapture() {
        int since = 0;
        for (int i = 1; i < play.size(); i++) {
            since = missing(play.get(i)) != missing(play.get(i - 1)) ? 0 : since + 1;
        }
        return since;
    }

    private int missing(int index) {
        int missing = 0;
        for (int square : game.spots.get(index).squares) if (square < 0) missing++;
        return missing;
    }
}
