import java.util.Arrays;

/** An endgame tablebase of small board games; the shared document DOC.md says what each call answers. */
public final class EndgameTable {
    public static final int NONE = -1, BAD = -2, STATE = -3, FULL = -4;

    /** The document's -5: there is no such thing here, and no error. */
    private static final int ABSENT = -5;
    private static final int WRONG_TEXT = -100;
    private static final int MOST_FED = 5, MOST_BYTES = 40, GREATEST_BYTE = 127;
    private static final int LEAST_SIDE = 2, GREATEST_SIDE = 6, MOST_SQUARES = 12, MOST_MEN = 3;
    private static final int MOST_INDICES = 2 * 13 * 13 * 13;
    /** No game has more moves in all its positions together: tests/RoomTest.java tells why. */
    private static final int MOST_STEPS = 7200;
    private static final int MOST_MAPS = 8;
    private static final int MOST_MADE = 40, MOST_LINE = 60, MOST_DEPTH = 4, UNLIKE_DEPTH = 2;
    private static final int MEN_FROM = 10;
    private static final String LETTERS = "wfknarbqdp";

    private final int[] tape = new int[MOST_BYTES];
    private int fed;
    private Table first, second;
    private Table table, keptTable;
    private final Play play = new Play(), keptPlay = new Play();
    private boolean kept;

    public EndgameTable() {
    }

    public int feed(int n, int a, int b, int c, int d, int e) {
        if (n < 1 || n > MOST_FED) return BAD;
        if (!isByte(a) || !isByte(b) || !isByte(c) || !isByte(d) || !isByte(e)) return BAD;
        if (fed + n > MOST_BYTES) return FULL;
        append(a);
        if (n > 1) append(b);
        if (n > 2) append(c);
        if (n > 3) append(d);
        if (n > 4) append(e);
        return fed;
    }

    public int define() {
        Reader text = new Reader(tape, fed);
        fed = 0;
        if (!text.isGame()) return WRONG_TEXT - text.at;
        Table free = freeTable();
        free.build(new Rules(text));
        table = free;
        play.clear();
        return Integer.bitCount(free.rules.ground);
    }

    public int game(int what) {
        if (table == null) return STATE;
        Rules rules = table.rules;
        switch (what) {
            case 0: return rules.width;
            case 1: return rules.height;
            case 2: return rules.men;
            case 3: return rules.whites;
            case 4: return rules.holes;
            case 5: return rules.stalemate;
            case 6: return rules.limit;
            case 7: return table.symmetry.maps;
            case 8: return table.possible;
            default: return rules.kindOf(what - MEN_FROM);
        }
    }

    public int setup(int a, int b, int c, int side) {
        if (table == null) return STATE;
        Rules rules = table.rules;
        if (side < 0 || side > 1) return BAD;
        if (!rules.canTell(0, a) || !rules.canTell(1, b) || !rules.canTell(2, c)) return BAD;
        int index = rules.indexOf(a, b, c, side);
        if (!table.isPossible(index)) return ABSENT;
        play.begin(index);
        return index;
    }

    public int load(int index) {
        if (table == null) return STATE;
        if (!table.isPossible(index)) return ABSENT;
        play.begin(index);
        return index & 1;
    }

    public int board(int what) {
        if (!isPlaying()) return STATE;
        int index = play.present();
        switch (what) {
            case 0: return index;
            case 1: return index & 1;
            case 2: return table.valueOf(index);
            case 3: return table.toEndOf(index);
            case 4: return table.toConversionOf(index);
            case 5: return table.verdictOf(index);
            case 6: return table.isRoyalAttacked(index) ? 1 : 0;
            case 7: return table.stepsOf(index);
            case 8: return table.canonicalOf(index);
            case 9: return table.symmetry.differentImages(index);
            default: return manOnBoard(what - MEN_FROM, index);
        }
    }

    public int move(int move, int what) {
        if (!isPlaying()) return STATE;
        int from = play.present();
        int to = table.stepOf(from, move);
        if (to < 0) return NONE;
        int man = table.rules.changedMan(from, to, from & 1);
        switch (what) {
            case 0: return man;
            case 1: return table.rules.squareOf(to, man);
            case 2: return capturedMan(from, to);
            case 3: return table.valueOf(to);
            case 4: return table.toEndOf(to);
            case 5: return table.toConversionOf(to);
            case 6: return to;
            default: return NONE;
        }
    }

    public int make(int move) {
        if (!isPlaying()) return STATE;
        int to = table.stepOf(play.present(), move);
        if (to < 0) return NONE;
        if (play.made() >= MOST_MADE) return FULL;
        play.add(to);
        return play.occurrences();
    }

    public int back() {
        if (!isPlaying() || play.made() < 1) return STATE;
        play.removeLast();
        return play.made();
    }

    public int best() {
        if (!isPlaying()) return STATE;
        int step = table.bestStep(play.present());
        return step < 0 ? ABSENT : step;
    }

    public int line(int k) {
        if (!isPlaying()) return STATE;
        if (k == 0 || k < -1) return NONE;
        int moves = table.followBest(play.present());
        if (k == -1) return moves;
        return k <= moves ? table.followed(k) : NONE;
    }

    public int search(int depth) {
        if (!isPlaying()) return STATE;
        if (depth < 0 || depth > MOST_DEPTH) return BAD;
        return Table.searched(table, play.present(), depth);
    }

    public int positions(int side, int value, int captured) {
        if (table == null) return STATE;
        if (side < 0 || side > 1 || value < -1 || value > 1) return NONE;
        if (captured < 0 || captured > 2) return NONE;
        return table.numberWithValue(side, value, captured);
    }

    public int spread(int kind, int side, int distance) {
        if (table == null) return STATE;
        if (kind < 0 || kind > 1 || side < 0 || side > 1) return NONE;
        if (distance < 0) return BAD;
        return table.numberWithDistance(kind, side, distance);
    }

    public int longest(int kind, int what) {
        if (table == null) return STATE;
        if (kind < 0 || kind > 1 || what < 0 || what > 1) return NONE;
        int index = table.mostDistant(kind);
        if (index < 0) return ABSENT;
        return what == 1 ? index : table.distanceOf(kind, index);
    }

    public int zugzwang(int i) {
        if (table == null) return STATE;
        if (i < -1) return NONE;
        return i == -1 ? table.mutualZugzwangs() : table.mutualZugzwang(i);
    }

    public int unlike() {
        if (!isPlaying()) return STATE;
        return table.unlikeImages(play.present());
    }

    public int image() {
        kept = true;
        keptTable = table;
        keptPlay.copy(play);
        return table == null ? 0 : 1;
    }

    public int undo() {
        if (!kept) return STATE;
        table = keptTable;
        play.copy(keptPlay);
        return table == null ? 0 : 1;
    }

    public int count(int what) {
        switch (what) {
            case 0: return play.made();
            case 1: return fed;
            case 2: return play.occurrences();
            case 3: return play.different();
            case 4: return movesSinceCapture();
            default: return NONE;
        }
    }

    private static boolean isByte(int value) {
        return value >= 0 && value <= GREATEST_BYTE;
    }

    private void append(int value) {
        if (fed < 0 || fed >= tape.length) return;
        tape[fed] = value;
        fed++;
    }

    /** The rows of a table are many, so two tables serve all games: the snapshot may hold one of them. */
    private Table freeTable() {
        if (first == null) first = new Table();
        if (keptTable != first) return first;
        if (second == null) second = new Table();
        return second;
    }

    private boolean isPlaying() {
        return table != null && play.hasPosition();
    }

    private int manOnBoard(int man, int index) {
        Rules rules = table.rules;
        if (!rules.isMan(man)) return NONE;
        int square = rules.squareOf(index, man);
        return square == rules.squares ? ABSENT : square;
    }

    private int capturedMan(int from, int to) {
        int man = table.rules.changedMan(from, to, 1 - (from & 1));
        return man < 0 ? ABSENT : man;
    }

    private int movesSinceCapture() {
        if (!isPlaying()) return 0;
        int moves = play.made();
        for (int i = 1; i <= moves; i++) {
            if (table.captures(play.at(moves - i), play.at(moves - i + 1))) return i - 1;
        }
        return moves;
    }

    /** Reads a game from the tape; where the text is wrong, it stops at the error position. */
    private static final class Reader {
        private final int[] tape;
        private final int length;
        private int at;
        private int width, height, men, whites, holes, stalemate;
        private int limit = ABSENT;
        private final int[] kinds = new int[MOST_MEN];

        Reader(int[] tape, int length) {
            this.tape = tape;
            this.length = Math.min(length, tape.length);
        }

        boolean isGame() {
            if (!readSize() || !take(';') || !readMen()) return false;
            whites = men;
            if (!take('-') || !readMen()) return false;
            for (int i = 0; i < MOST_BYTES && at < length; i++) {
                if (!take(';') || !readClause()) return false;
            }
            return at >= length;
        }

        private int ahead() {
            return at >= 0 && at < length && at < tape.length ? tape[at] : NONE;
        }

        private boolean take(char sign) {
            if (ahead() != sign) return false;
            at++;
            return true;
        }

        private int digitAhead() {
            int sign = ahead();
            return sign >= '0' && sign <= '9' ? sign - '0' : NONE;
        }

        private boolean readSize() {
            width = digitAhead();
            if (width < LEAST_SIDE || width > GREATEST_SIDE) return false;
            at++;
            height = digitAhead();
            if (height < LEAST_SIDE || height > GREATEST_SIDE) return false;
            if (width * height > MOST_SQUARES) return false;
            at++;
            return true;
        }

        private boolean readMen() {
            if (!readMan()) return false;
            for (int i = 0; i < MOST_MEN && kindAhead() >= 0; i++) {
                if (!readMan()) return false;
            }
            return true;
        }

        private int kindAhead() {
            int sign = ahead();
            return sign < 0 ? NONE : LETTERS.indexOf((char) sign);
        }

        private boolean readMan() {
            int kind = kindAhead();
            if (kind < 0 || men < 0 || men >= kinds.length) return false;
            kinds[men] = kind;
            men++;
            at++;
            return true;
        }

        private boolean readClause() {
            if (take('x')) return readHoles();
            if (take('m')) return readLimit();
            if (take('d')) stalemate = 0;
            else if (take('l')) stalemate = -1;
            else if (take('w')) stalemate = 1;
            else return false;
            return true;
        }

        private boolean readLimit() {
            int number = readNumber();
            if (number < 0) return false;
            limit = number;
            return true;
        }

        private boolean readHoles() {
            for (int i = 0; i < MOST_BYTES; i++) {
                int begin = at;
                int square = readNumber();
                if (square < 0) return false;
                if (square >= width * height) {
                    at = begin;
                    return false;
                }
                holes |= 1 << square;
                if (!take(',')) return true;
            }
            return false;
        }

        /** A digit behind a 0 is left to the caller, which finds it wrong where it stands. */
        private int readNumber() {
            int number = digitAhead();
            if (number < 0) return NONE;
            at++;
            int next = digitAhead();
            if (number == 0 || next < 0) return number;
            at++;
            return number * 10 + next;
        }
    }

    /** A game as its text tells it, and how its positions are numbered. */
    private static final class Rules {
        private final int width, height, squares, holes, ground;
        private final int men, whites, stalemate, limit;
        private final int base, indices;
        private final int[] kinds = new int[MOST_MEN];
        private final int[] weights = new int[MOST_MEN];

        Rules(Reader text) {
            width = text.width;
            height = text.height;
            squares = width * height;
            holes = text.holes;
            ground = ((1 << squares) - 1) & ~holes;
            men = text.men;
            whites = text.whites;
            stalemate = text.stalemate;
            limit = text.limit;
            base = squares + 1;
            int weight = 2;
            for (int man = MOST_MEN - 1; man >= 0; man--) {
                kinds[man] = man < men ? text.kinds[man] : NONE;
                weights[man] = weight;
                weight *= base;
            }
            indices = Math.min(weight, MOST_INDICES);
        }

        boolean isMan(int man) {
            return man >= 0 && man < men && man < MOST_MEN;
        }

        int kindOf(int man) {
            return isMan(man) ? kinds[man] : NONE;
        }

        int sideOf(int man) {
            return man < whites ? 0 : 1;
        }

        int firstMan(int side) {
            return side == 0 ? 0 : whites;
        }

        int endOfMen(int side) {
            return side == 0 ? whites : men;
        }

        /** Whether setup may tell this square of the man, -1 included. */
        boolean canTell(int man, int square) {
            return square == -1 || isMan(man) && square >= 0 && square < squares;
        }

        int indexOf(int a, int b, int c, int side) {
            return weighed(0, a) + weighed(1, b) + weighed(2, c) + side;
        }

        /** What a man on a square adds to the index; off the board it stands on a square behind the last one. */
        int weighed(int man, int square) {
            if (man < 0 || man >= weights.length) return 0;
            return weights[man] * (square < 0 ? squares : square);
        }

        int squareOf(int index, int man) {
            if (man < 0 || man >= weights.length) return squares;
            int weight = weights[man];
            return weight > 0 && base > 0 ? index / weight % base : squares;
        }

        /** The man of a side that stands elsewhere in the other position, or NONE. */
        int changedMan(int index, int other, int side) {
            for (int man = firstMan(side); man < endOfMen(side); man++) {
                if (squareOf(index, man) != squareOf(other, man)) return man;
            }
            return NONE;
        }

        boolean hasPawns() {
            for (int man = 0; man < men; man++) {
                if (kindOf(man) == Reach.PAWN) return true;
            }
            return false;
        }
    }

    /** Where the men can go: the squares that must be empty on the way, as bits, or NONE for no way. */
    private static final class Reach {
        private static final int WAZIR = 0, FERS = 1, KING = 2, KNIGHT = 3, ALFIL = 4;
        private static final int ROOK = 5, BISHOP = 6, QUEEN = 7, DABBABA = 8, PAWN = 9;
        private static final int ROW = MOST_SQUARES * MOST_SQUARES;

        private final int[] quiet = new int[MOST_MEN * ROW];
        private final int[] strike = new int[MOST_MEN * ROW];

        Reach(Rules rules) {
            Arrays.fill(quiet, NONE);
            Arrays.fill(strike, NONE);
            for (int man = 0; man < rules.men && man < MOST_MEN; man++) {
                for (int from = 0; from < rules.squares && from < MOST_SQUARES; from++) {
                    for (int to = 0; to < rules.squares && to < MOST_SQUARES; to++) {
                        int cell = man * ROW + from * MOST_SQUARES + to;
                        quiet[cell] = way(rules, man, from, to, false);
                        strike[cell] = way(rules, man, from, to, true);
                    }
                }
            }
        }

        int wayOf(int man, int from, int to, boolean captures) {
            if (from < 0 || from >= MOST_SQUARES || to < 0 || to >= MOST_SQUARES) return NONE;
            int[] row = captures ? strike : quiet;
            int cell = man * ROW + from * MOST_SQUARES + to;
            return cell >= 0 && cell < row.length ? row[cell] : NONE;
        }

        private static int way(Rules rules, int man, int from, int to, boolean captures) {
            if (rules.width < 1 || from == to || (rules.ground >> to & 1) == 0) return NONE;
            int across = to % rules.width - from % rules.width;
            int up = to / rules.width - from / rules.width;
            int kind = rules.kindOf(man);
            if (kind == PAWN) {
                int ahead = rules.sideOf(man) == 0 ? 1 : -1;
                return up == ahead && Math.abs(across) == (captures ? 1 : 0) ? 0 : NONE;
            }
            if (isStep(kind, Math.abs(across), Math.abs(up))) return 0;
            return isRide(kind, Math.abs(across), Math.abs(up)) ? between(rules, from, across, up) : NONE;
        }

        private static boolean isStep(int kind, int across, int up) {
            switch (kind) {
                case WAZIR: return across + up == 1;
                case FERS: return across == 1 && up == 1;
                case KING: return across <= 1 && up <= 1;
                case KNIGHT: return across * up == 2;
                case ALFIL: return across == 2 && up == 2;
                case DABBABA: return across + up == 2 && across != up;
                default: return false;
            }
        }

        private static boolean isRide(int kind, int across, int up) {
            boolean straight = across == 0 || up == 0;
            boolean diagonal = across == up;
            switch (kind) {
                case ROOK: return straight;
                case BISHOP: return diagonal;
                case QUEEN: return straight || diagonal;
                default: return false;
            }
        }

        private static int between(Rules rules, int from, int across, int up) {
            int stride = direction(across) + direction(up) * rules.width;
            int length = Math.max(Math.abs(across), Math.abs(up));
            int way = 0;
            for (int i = 1; i < length; i++) {
                way |= 1 << (from + i * stride);
            }
            return (way & ~rules.ground) == 0 ? way : NONE;
        }

        private static int direction(int by) {
            return by > 0 ? 1 : by < 0 ? -1 : 0;
        }
    }

    /** The symmetries of a game: each maps squares, and the place off the board to itself. */
    private static final class Symmetry {
        private static final int ROW = MOST_SQUARES + 1;

        private final Rules rules;
        private final int[] mapped = new int[MOST_MAPS * ROW];
        private int maps;

        Symmetry(Rules rules) {
            this.rules = rules;
            int kinds = rules.hasPawns() ? 2 : rules.width == rules.height ? MOST_MAPS : MOST_MAPS / 2;
            for (int kind = 0; kind < kinds; kind++) {
                if (writeMap(rules, kind, mapped, maps * ROW)) maps++;
            }
        }

        /** The bits of a kind tell the reflection of columns, that of rows, and the exchange of both. */
        private static boolean writeMap(Rules rules, int kind, int[] mapped, int begin) {
            int image = 0;
            if (begin < 0 || begin + ROW > mapped.length || rules.width < 1) return false;
            for (int square = 0; square < rules.squares && square < ROW; square++) {
                int x = square % rules.width, y = square / rules.width;
                if ((kind & 1) != 0) x = rules.width - 1 - x;
                if ((kind & 2) != 0) y = rules.height - 1 - y;
                int to = (kind & 4) != 0 ? x * rules.width + y : y * rules.width + x;
                mapped[begin + square] = to;
                if ((rules.holes >> square & 1) != 0) image |= 1 << to;
            }
            if (rules.squares < ROW) mapped[begin + rules.squares] = rules.squares;
            return image == rules.holes;
        }

        int imageOf(int index, int map) {
            int sum = index & 1;
            for (int man = 0; man < MOST_MEN; man++) {
                int cell = map * ROW + rules.squareOf(index, man);
                if (cell >= 0 && cell < mapped.length) sum += rules.weighed(man, mapped[cell]);
            }
            return sum;
        }

        int leastImage(int index) {
            int least = index;
            for (int map = 0; map < maps; map++) {
                least = Math.min(least, imageOf(index, map));
            }
            return least;
        }

        /** Whether an earlier map makes the same of the position. */
        boolean isRepeated(int index, int map) {
            int made = imageOf(index, map);
            for (int earlier = 0; earlier < map; earlier++) {
                if (imageOf(index, earlier) == made) return true;
            }
            return false;
        }

        int differentImages(int index) {
            int different = 0;
            for (int map = 0; map < maps; map++) {
                if (!isRepeated(index, map)) different++;
            }
            return different;
        }
    }

    /** Men on squares, read from an index, on which moves are tried; a captured man stands behind the last square. */
    private static final class Position {
        private final Rules rules;
        private final Reach reach;
        private final int[] places = new int[MOST_MEN];
        private int side, occupied;

        Position(Rules rules) {
            this.rules = rules;
            reach = new Reach(rules);
        }

        void read(int index) {
            side = index & 1;
            occupied = 0;
            for (int man = 0; man < places.length; man++) {
                int square = rules.squareOf(index, man);
                places[man] = square;
                if (square < rules.squares) occupied |= 1 << square;
            }
        }

        int placeOf(int man) {
            return man >= 0 && man < places.length ? places[man] : rules.squares;
        }

        boolean isOnBoard(int man) {
            return placeOf(man) < rules.squares;
        }

        int missing() {
            int missing = 0;
            for (int man = 0; man < rules.men; man++) {
                if (!isOnBoard(man)) missing++;
            }
            return missing;
        }

        boolean isPossible() {
            int standing = 0;
            for (int man = 0; man < places.length; man++) {
                if (!isOnBoard(man)) continue;
                if (!rules.isMan(man)) return false;
                standing++;
            }
            if (!isOnBoard(0) || !isOnBoard(rules.whites)) return false;
            if (Integer.bitCount(occupied) != standing || (occupied & rules.holes) != 0) return false;
            return !isAttacked(1 - side);
        }

        /** Whether the royal man of a side is attacked; no way begins where the captured men stand. */
        boolean isAttacked(int royalSide) {
            int royal = placeOf(rules.firstMan(royalSide));
            int attackers = 1 - royalSide;
            for (int man = rules.firstMan(attackers); man < rules.endOfMen(attackers); man++) {
                int way = reach.wayOf(man, placeOf(man), royal, true);
                if (way >= 0 && (way & occupied) == 0) return true;
            }
            return false;
        }

        private int manOn(int square) {
            for (int man = 0; man < rules.men; man++) {
                if (placeOf(man) == square) return man;
            }
            return NONE;
        }

        /** The index of the position after a man has gone to a square, or NONE if that is no legal move. */
        int after(int man, int to) {
            int from = placeOf(man);
            boolean full = (occupied >> to & 1) != 0;
            int way = reach.wayOf(man, from, to, full);
            if (way < 0 || (way & occupied) != 0) return NONE;
            int guest = full ? manOn(to) : NONE;
            if (guest >= 0 && rules.sideOf(guest) == side) return NONE;
            int before = occupied;
            occupied = occupied & ~(1 << from) | 1 << to;
            put(man, to);
            put(guest, rules.squares);
            int next = isAttacked(side) ? NONE : rules.indexOf(placeOf(0), placeOf(1), placeOf(2), 1 - side);
            put(man, from);
            put(guest, to);
            occupied = before;
            return next;
        }

        private void put(int man, int square) {
            if (man >= 0 && man < places.length) places[man] = square;
        }
    }

    /** All positions of a game with their moves, values and distances. */
    private static final class Table {
        private final int[] canonical = new int[MOST_INDICES];
        private final int[] taken = new int[MOST_INDICES];
        private final int[] values = new int[MOST_INDICES];
        private final int[] toEnd = new int[MOST_INDICES];
        private final int[] toConversion = new int[MOST_INDICES];
        private final int[] stepsFrom = new int[MOST_INDICES + 1];
        private final int[] steps = new int[MOST_STEPS];
        private final int[] followed = new int[MOST_LINE + 1];
        private Rules rules;
        private Symmetry symmetry;
        private Position spot;
        private int possible, indices, written;

        void build(Rules newRules) {
            rules = newRules;
            symmetry = new Symmetry(newRules);
            spot = new Position(newRules);
            indices = newRules.indices;
            findPositions();
            findSteps();
            findEnds();
            boolean found = true;
            for (int distance = 1; found && distance < MOST_INDICES; distance++) {
                found = findValues(distance);
            }
            found = true;
            for (int distance = 1; found && distance < MOST_INDICES; distance++) {
                found = findConversions(distance);
            }
            shareWithImages();
        }

        private void findPositions() {
            possible = 0;
            for (int index = 0; index < indices; index++) {
                spot.read(index);
                taken[index] = spot.missing();
                canonical[index] = NONE;
                if (!spot.isPossible()) continue;
                canonical[index] = symmetry.leastImage(index);
                possible++;
            }
        }

        private void findSteps() {
            written = 0;
            for (int index = 0; index < indices; index++) {
                stepsFrom[index] = written;
                if (canonical[index] >= 0) writeSteps(index);
            }
            stepsFrom[indices] = written;
        }

        private void writeSteps(int index) {
            spot.read(index);
            int side = index & 1;
            for (int man = rules.firstMan(side); man < rules.endOfMen(side); man++) {
                if (!spot.isOnBoard(man)) continue;
                for (int to = 0; to < rules.squares; to++) {
                    int next = spot.after(man, to);
                    if (next < 0 || written >= steps.length) continue;
                    steps[written] = next;
                    written++;
                }
            }
        }

        private void findEnds() {
            for (int index = 0; index < indices; index++) {
                values[index] = canonical[index] >= 0 && isEnd(index) ? endValue(index) : 0;
                toEnd[index] = values[index] == 0 ? ABSENT : 0;
                toConversion[index] = toEnd[index];
            }
        }

        private int endValue(int index) {
            return isRoyalAttacked(index) ? -1 : rules.stalemate;
        }

        private boolean findValues(int distance) {
            boolean found = false;
            for (int index = 0; index < indices; index++) {
                if (canonical[index] != index || values[index] != 0 || isEnd(index)) continue;
                int value = valueFromSteps(index, distance);
                if (value == 0) continue;
                values[index] = value;
                toEnd[index] = distance;
                found = true;
            }
            return found;
        }

        /** The value that the positions with a smaller distance to the end give, 0 if they give none. */
        private int valueFromSteps(int index, int distance) {
            boolean allWon = true;
            for (int i = stepsFrom[index]; i < stepsFrom[index + 1]; i++) {
                int next = canonicalOf(steps[i]);
                int value = toEndOf(next) < distance ? valueOf(next) : 0;
                if (value < 0) return 1;
                if (value == 0) allWon = false;
            }
            return allWon ? -1 : 0;
        }

        private boolean findConversions(int distance) {
            boolean found = false;
            for (int index = 0; index < indices; index++) {
                if (canonical[index] != index || values[index] == 0 || toConversion[index] >= 0) continue;
                if (!isConverted(index, distance)) continue;
                toConversion[index] = distance;
                found = true;
            }
            return found;
        }

        /** Whether the numbers of the moves, as far as they are known, let the position have this distance. */
        private boolean isConverted(int index, int distance) {
            boolean won = values[index] > 0;
            for (int i = stepsFrom[index]; i < stepsFrom[index + 1]; i++) {
                int next = canonicalOf(steps[i]);
                if (won && valueOf(next) >= 0) continue;
                int number = captures(index, next) || isEnd(next) ? 0 : toConversionOf(next);
                boolean near = number >= 0 && number < distance;
                if (near == won) return won;
            }
            return !won;
        }

        private void shareWithImages() {
            for (int index = 0; index < indices; index++) {
                int least = canonical[index];
                if (least < 0) continue;
                values[index] = valueOf(least);
                toEnd[index] = toEndOf(least);
                toConversion[index] = toConversionOf(least);
            }
        }

        private boolean isIndex(int index) {
            return index >= 0 && index < indices && index < MOST_INDICES;
        }

        boolean isPossible(int index) {
            return isIndex(index) && canonical[index] >= 0;
        }

        int canonicalOf(int index) {
            return isIndex(index) ? canonical[index] : NONE;
        }

        int valueOf(int index) {
            return isIndex(index) ? values[index] : 0;
        }

        int toEndOf(int index) {
            return isIndex(index) ? toEnd[index] : ABSENT;
        }

        int toConversionOf(int index) {
            return isIndex(index) ? toConversion[index] : ABSENT;
        }

        int distanceOf(int kind, int index) {
            return kind == 0 ? toEndOf(index) : toConversionOf(index);
        }

        int verdictOf(int index) {
            if (rules.limit >= 0 && toConversionOf(index) > rules.limit) return 0;
            return valueOf(index);
        }

        boolean isRoyalAttacked(int index) {
            spot.read(index);
            return spot.isAttacked(index & 1);
        }

        int stepsOf(int index) {
            return isIndex(index) ? stepsFrom[index + 1] - stepsFrom[index] : 0;
        }

        private boolean isEnd(int index) {
            return stepsOf(index) == 0;
        }

        /** The index of the position to which a move leads, or NONE if there is no such move. */
        int stepOf(int index, int step) {
            if (step < 0 || step >= stepsOf(index)) return NONE;
            int i = stepsFrom[index] + step;
            return i >= 0 && i < steps.length ? steps[i] : NONE;
        }

        boolean captures(int from, int to) {
            return isIndex(from) && isIndex(to) && taken[to] > taken[from];
        }

        int bestStep(int index) {
            int value = valueOf(index);
            int chosen = NONE, distance = 0;
            for (int step = 0; step < stepsOf(index); step++) {
                int next = stepOf(index, step);
                if (valueOf(next) != -value) continue;
                int gain = value * (distance - toEndOf(next));
                if (chosen >= 0 && gain <= 0) continue;
                chosen = step;
                distance = toEndOf(next);
            }
            return chosen;
        }

        /** Writes the best line into its row and returns the number of its moves. */
        int followBest(int index) {
            followed[0] = index;
            for (int moves = 0; moves < MOST_LINE; moves++) {
                int step = bestStep(followed[moves]);
                if (step < 0) return moves;
                int next = stepOf(followed[moves], step);
                if (isFollowed(next, moves)) return moves;
                followed[moves + 1] = next;
            }
            return MOST_LINE;
        }

        private boolean isFollowed(int index, int moves) {
            for (int i = 0; i <= moves && i < followed.length; i++) {
                if (followed[i] == index) return true;
            }
            return false;
        }

        int followed(int k) {
            return k >= 0 && k < followed.length ? followed[k] : NONE;
        }

        /** The moves alone are looked at here, not the values, so that these are found a second time. */
        private static int searched(Table table, int index, int depth) {
            if (table.isEnd(index)) return table.endValue(index);
            if (depth <= 0 || depth > MOST_DEPTH) return 0;
            int greatest = -1;
            for (int step = 0; greatest < 1 && step < table.stepsOf(index); step++) {
                greatest = Math.max(greatest, -searched(table, table.stepOf(index, step), depth - 1));
            }
            return greatest;
        }

        int numberWithValue(int side, int value, int captured) {
            int number = 0;
            for (int index = side; index < indices; index += 2) {
                if (!isPossible(index) || valueOf(index) != value) continue;
                int kind = taken[index] > 0 ? 1 : 0;
                if (captured == 2 || captured == kind) number++;
            }
            return number;
        }

        int numberWithDistance(int kind, int side, int distance) {
            int number = 0;
            for (int index = side; index < indices; index += 2) {
                if (isPossible(index) && distanceOf(kind, index) == distance) number++;
            }
            return number;
        }

        /** The lowest index with the greatest distance, or NONE if all positions are drawn. */
        int mostDistant(int kind) {
            int found = NONE, greatest = -1;
            for (int index = 0; index < indices; index++) {
                if (!isPossible(index) || distanceOf(kind, index) <= greatest) continue;
                found = index;
                greatest = distanceOf(kind, index);
            }
            return found;
        }

        private boolean isMutualZugzwang(int index) {
            return isPossible(index) && isPossible(index + 1) && valueOf(index) < -valueOf(index + 1);
        }

        int mutualZugzwangs() {
            int number = 0;
            for (int index = 0; index < indices; index += 2) {
                if (isMutualZugzwang(index)) number++;
            }
            return number;
        }

        int mutualZugzwang(int i) {
            int left = i;
            for (int index = 0; index < indices; index += 2) {
                if (!isMutualZugzwang(index)) continue;
                if (left == 0) return index;
                left--;
            }
            return NONE;
        }

        int unlikeImages(int index) {
            int number = 0;
            for (int map = 0; map < symmetry.maps; map++) {
                if (symmetry.isRepeated(index, map)) continue;
                int made = symmetry.imageOf(index, map);
                int told = searched(this, made, UNLIKE_DEPTH);
                boolean agrees = told == 0 || told == valueOf(made);
                if (valueOf(made) != valueOf(index) || !agrees) number++;
            }
            return number;
        }
    }

    /** The positions of the game that is played, the first one and those that its moves made. */
    private static final class Play {
        private final int[] row = new int[MOST_MADE + 1];
        private int length;

        void clear() {
            length = 0;
        }

        void begin(int index) {
            length = 0;
            add(index);
        }

        void add(int index) {
            if (length < 0 || length >= row.length) return;
            row[length] = index;
            length++;
        }

        void removeLast() {
            if (length > 0) length--;
        }

        void copy(Play other) {
            System.arraycopy(other.row, 0, row, 0, row.length);
            length = other.length;
        }

        boolean hasPosition() {
            return length > 0;
        }

        int made() {
            return Math.max(0, length - 1);
        }

        int at(int i) {
            return i >= 0 && i < row.length ? row[i] : NONE;
        }

        int present() {
            return at(length - 1);
        }

        int occurrences() {
            return length > 0 ? occurrencesUpTo(length - 1) : 0;
        }

        private int occurrencesUpTo(int last) {
            int number = 0;
            for (int i = 0; i <= last; i++) {
                if (at(i) == at(last)) number++;
            }
            return number;
        }

        int different() {
            int number = 0;
            for (int i = 0; i < length; i++) {
                if (occurrencesUpTo(i) == 1) number++;
            }
            return number;
        }
    }
}
