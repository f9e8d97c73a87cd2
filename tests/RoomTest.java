import java.lang.management.ManagementFactory;
import java.lang.reflect.Array;
import java.lang.reflect.Field;
import java.lang.reflect.Modifier;
import java.util.ArrayDeque;
import java.util.Deque;
import java.util.IdentityHashMap;
import java.util.Map;

/**
 * The room that the program takes: the row of all moves is long enough for every game, and a run of 512 calls makes few
 * objects and keeps few.
 *
 * <p>The greatest number of moves is 6000 (62;k-kn): all games, with every set of holes, were counted once, which takes
 * minutes; here those without holes are counted again.
 */
public final class RoomTest {
    private static final int MOST_STEPS = 7200, MOST_KEPT = 80000, MOST_BYTES_MADE = 1600000;
    private static final String LETTERS = "wfknarbqdp";
    private static final String[] SIZES = {"33", "25", "26", "34", "43", "52", "62"};

    public static void main(String[] args) {
        movesOfAllGames();
        whatIsKept();
        whatIsMade();
        Check.end("RoomTest");
    }

    private static void movesOfAllGames() {
        int greatest = 0;
        EndgameTable x = new EndgameTable();
        for (String size : SIZES) for (int i = 0; i < 2000; i++) {
            char a = LETTERS.charAt(i % 10), b = LETTERS.charAt(i / 10 % 10), c = LETTERS.charAt(i / 100 % 10);
            Check.define(x, size + ";" + a + (i < 1000 ? "-" + b : b + "-") + c);
            int moves = 0;
            for (int index = 0; index < 4394; index++) {
                if (x.load(index) >= 0) moves += x.board(7);
            }
            greatest = Math.max(greatest, moves);
        }
        Check.same("the moves of the game that has most", greatest, 6000);
        Check.holds("they fit", greatest <= MOST_STEPS);
    }

    private static void whatIsKept() {
        EndgameTable x = busy();
        int[] sizes = size(x);
        Check.holds(sizes[0] + " objects are few", sizes[0] <= 60);
        Check.holds(sizes[1] + " fields and elements are few", sizes[1] <= MOST_KEPT);
        EndgameTable idle = new EndgameTable();
        Check.holds("an object without a game is small", size(idle)[1] <= 300);
    }

    private static EndgameTable busy() {
        EndgameTable x = Check.of("34;kq-k");
        x.image();
        Check.define(x, "34;kr-k");
        Check.define(x, "34;kn-k");
        x.undo();
        return x;
    }

    /** The dearest run is one of games alone: each takes three calls at least. */
    private static void whatIsMade() {
        com.sun.management.ThreadMXBean bean = (com.sun.management.ThreadMXBean) ManagementFactory.getThreadMXBean();
        EndgameTable x = busy();
        long before = bean.getCurrentThreadAllocatedBytes();
        for (int i = 0; i < 170; i++) {
            x.feed(5, '2', '2', ';', 'w', '-');
            x.feed(1, 'f', 0, 0, 0, 0);
            x.define();
        }
        long defined = bean.getCurrentThreadAllocatedBytes();
        for (int i = 0; i < 512; i++) ask(x, i);
        long asked = bean.getCurrentThreadAllocatedBytes();
        Check.holds((defined - before) + " bytes for games are few", defined - before <= MOST_BYTES_MADE);
        Check.holds((asked - defined) + " bytes for questions are none", asked - defined <= 1000);
    }

    private static void ask(EndgameTable x, int i) {
        x.load(38);
        x.make(0);
        x.back();
        x.best();
        x.line(-1);
        x.search(4);
        x.unlike();
        x.image();
        x.undo();
        x.board(i % 14);
        x.move(0, i % 7);
        x.count(i % 5);
        x.game(i % 13);
        x.positions(0, 1, 2);
        x.spread(0, 0, 1);
        x.longest(0, 1);
        x.zugzwang(-1);
        x.setup(0, 3, -1, 0);
    }

    /** The objects and arrays that hang on an object, and their fields and elements. */
    private static int[] size(Object root) {
        Map<Object, Boolean> seen = new IdentityHashMap<>();
        Deque<Object> open = new ArrayDeque<>();
        open.add(root);
        int cells = 0;
        while (!open.isEmpty()) {
            Object one = open.remove();
            if (seen.put(one, true) != null) continue;
            if (one.getClass().isArray()) {
                cells += Array.getLength(one);
                continue;
            }
            for (Field field : one.getClass().getDeclaredFields()) {
                if (Modifier.isStatic(field.getModifiers())) continue;
                cells++;
                Object part = valueOf(field, one);
                if (!field.getType().isPrimitive() && part != null) open.add(part);
            }
        }
        return new int[] {seen.size(), cells};
    }

    private static Object valueOf(Field field, Object owner) {
        try {
            field.setAccessible(true);
            return field.get(owner);
        } catch (IllegalAccessException refused) {
            throw new IllegalStateException(refused);
        }
    }
}
