import java.util.ArrayList;
import java.util.Arrays;
import java.util.HashSet;
import java.util.List;
import java.util.Map;
import java.util.Set;
import java.util.TreeMap;
import java.util.TreeSet;

/**
 * The document once more, written for plainness and not for speed, to compare the program with. It shares no code
 * with the program and works with lists of places, sweeps over all positions, and turned boards.
 */
final class Model {
    static final int NO_SUCH = -1, BAD_VALUE = -2, BAD_TEXT = -3, TOO_MANY = -4, NOT_POSSIBLE = -5, NONE = -6;

    /** A board with its settings and a position on it. */
    static final class Scene {
        int[] settings = {0, 0, 0};
        TreeSet<Integer> blocked = new TreeSet<>();
        int who = 0;
        int fox = 5;
        int low = 0;
        int high = 15;

        Scene copy() {
            Scene c = new Scene();
            c.settings = settings.clone();
            c.blocked = new TreeSet<>(blocked);
            c.who = who;
            c.fox = fox;
            c.low = low;
            c.high = high;
            return c;
        }
    }

    /** All positions of one board: the distances, who stands for whom, the rule. */
    static final class Table {
        final TreeMap<Integer, Integer> distance = new TreeMap<>();
        final TreeMap<Integer, TreeSet<Integer>> alike = new TreeMap<>();
        final List<Integer> standing = new ArrayList<>();
        final TreeMap<Integer, Integer> told = new TreeMap<>();
        int symmetries;
    }

    Scene scene = new Scene();
    final List<Scene> history = new ArrayList<>();
    final Scene[] slots = new Scene[2];
    String pad = "";
    private String tableFor = "";
    private Table table;

    // ---- the board

    static boolean isPlace(int place) {
        return 0 <= place && place <= 15;
    }

    static boolean nextTo(int a, int b, boolean diagonal) {
        int rows = Math.abs(a / 4 - b / 4);
        int columns = Math.abs(a % 4 - b % 4);
        return rows + columns == 1 || diagonal && rows == 1 && columns == 1;
    }

    static int far(int a, int b) {
        return Math.abs(a / 4 - b / 4) + Math.abs(a % 4 - b % 4);
    }

    static int pair(int a, int b) {
        int number = 0;
        for (int i = 0; i < 16; i++) {
            for (int j = i + 1; j < 16; j++) {
                if (i == Math.min(a, b) && j == Math.max(a, b)) {
                    return number;
                }
                number++;
            }
        }
        return -1;
    }

    private static final int[][] PAIRS = new int[16][16];

    static {
        for (int a = 0; a < 16; a++) {
            for (int b = 0; b < 16; b++) {
                PAIRS[a][b] = a == b ? -1 : pair(a, b);
            }
        }
    }

    static int numberOf(int who, int fox, int a, int b) {
        return 2048 * who + 128 * fox + PAIRS[a][b];
    }

    /** The moves of a position in the order in which they are told: from, to. Stays come last. */
    static List<int[]> moves(Scene s, int who, int fox, int low, int high) {
        List<int[]> moves = new ArrayList<>();
        if (fox == low || fox == high) {
            return moves;
        }
        if (who == 1) {
            for (int to = 0; to < 16; to++) {
                if (nextTo(fox, to, s.settings[0] == 1) && !s.blocked.contains(to) && to != low && to != high) {
                    moves.add(new int[] {fox, to});
                }
            }
            return moves;
        }
        for (int from : new int[] {low, high}) {
            int other = low + high - from;
            for (int to = 0; to < 16; to++) {
                if (nextTo(from, to, s.settings[1] == 1) && !s.blocked.contains(to) && to != other) {
                    moves.add(new int[] {from, to});
                }
            }
        }
        if (s.settings[2] == 1) {
            moves.add(new int[] {low, low});
        }
        return moves;
    }

    /** The number of the position that a move leads to, or -1 if it is a catch. */
    static int after(int who, int fox, int low, int high, int[] move) {
        if (who == 1) {
            return numberOf(0, move[1], low, high);
        }
        if (move[1] == fox) {
            return -1;
        }
        int other = move[0] == low ? high : low;
        return numberOf(1, fox, move[1], other);
    }

    // ---- all positions

    Table table() {
        String key = Arrays.toString(scene.settings) + scene.blocked;
        if (!key.equals(tableFor)) {
            tableFor = key;
            table = workOut(scene);
        }
        return table;
    }

    static Table workOut(Scene s) {
        Table t = new Table();
        TreeMap<Integer, int[]> positions = positions(s);
        distances(s, t, positions);
        fold(s, t, positions);
        rules(t, positions);
        return t;
    }

    static TreeMap<Integer, int[]> positions(Scene s) {
        TreeMap<Integer, int[]> positions = new TreeMap<>();
        for (int who = 0; who < 2; who++) {
            for (int fox = 0; fox < 16; fox++) {
                for (int low = 0; low < 16; low++) {
                    for (int high = low + 1; high < 16; high++) {
                        boolean free = !s.blocked.contains(fox) && !s.blocked.contains(low)
                                && !s.blocked.contains(high);
                        if (free && fox != low && fox != high) {
                            positions.put(numberOf(who, fox, low, high), new int[] {who, fox, low, high});
                        }
                    }
                }
            }
        }
        return positions;
    }

    /** Sweeps until nothing is new; a sweep uses only what the sweeps before it have found. */
    private static void distances(Scene s, Table t, TreeMap<Integer, int[]> positions) {
        int[] numbers = positions.keySet().stream().mapToInt(Integer::intValue).toArray();
        int[][] next = new int[numbers.length][];
        for (int i = 0; i < numbers.length; i++) {
            int[] p = positions.get(numbers[i]);
            next[i] = moves(s, p[0], p[1], p[2], p[3]).stream()
                    .mapToInt(m -> after(p[0], p[1], p[2], p[3], m)).toArray();
        }
        int[] known = new int[4096];
        Arrays.fill(known, NONE);
        boolean more = true;
        while (more) {
            more = false;
            int[] before = known.clone();
            for (int i = 0; i < numbers.length; i++) {
                if (before[numbers[i]] == NONE) {
                    known[numbers[i]] = value(numbers[i] >= 2048, next[i], before);
                    more |= known[numbers[i]] != NONE;
                }
            }
        }
        for (int number : numbers) {
            t.distance.put(number, known[number]);
        }
    }

    private static int value(boolean foxMoves, int[] next, int[] known) {
        if (foxMoves && next.length == 0) {
            return 0;
        }
        int greatest = -1;
        int least = Integer.MAX_VALUE;
        boolean all = true;
        for (int n : next) {
            if (n == -1) {
                return 1;
            }
            if (known[n] == NONE) {
                all = false;
            } else {
                greatest = Math.max(greatest, known[n]);
                least = Math.min(least, known[n]);
            }
        }
        if (foxMoves) {
            return all ? greatest + 1 : NONE;
        }
        return least == Integer.MAX_VALUE ? NONE : least + 1;
    }

    /** Turned by a quarter: the place (row, column) goes to (column, 3 - row). */
    private static int turned(int place) {
        return 4 * (place % 4) + 3 - place / 4;
    }

    private static int mirrored(int place) {
        return 4 * (place / 4) + 3 - place % 4;
    }

    static int moved(int way, int place) {
        int p = way >= 4 ? mirrored(place) : place;
        for (int i = 0; i < way % 4; i++) {
            p = turned(p);
        }
        return p;
    }

    private static void fold(Scene s, Table t, TreeMap<Integer, int[]> positions) {
        List<Integer> ways = new ArrayList<>();
        for (int way = 0; way < 8; way++) {
            Set<Integer> image = new HashSet<>();
            for (int place : s.blocked) {
                image.add(moved(way, place));
            }
            if (image.equals(s.blocked)) {
                ways.add(way);
            }
        }
        t.symmetries = ways.size();
        for (Map.Entry<Integer, int[]> e : positions.entrySet()) {
            int[] p = e.getValue();
            TreeSet<Integer> alike = new TreeSet<>();
            for (int way : ways) {
                alike.add(numberOf(p[0], moved(way, p[1]), moved(way, p[2]), moved(way, p[3])));
            }
            t.alike.put(e.getKey(), alike);
            if (alike.first().equals(e.getKey())) {
                t.standing.add(e.getKey());
            }
        }
    }

    static int key(int[] p) {
        int a = far(p[1], p[2]);
        int b = far(p[1], p[3]);
        return 49 * p[0] + 7 * Math.min(a, b) + Math.max(a, b);
    }

    private static void rules(Table t, TreeMap<Integer, int[]> positions) {
        TreeMap<Integer, TreeMap<Integer, Integer>> counts = new TreeMap<>();
        for (int number : t.standing) {
            int d = t.distance.get(number);
            int order = d == NONE ? Integer.MAX_VALUE : d;
            counts.computeIfAbsent(key(positions.get(number)), k -> new TreeMap<>()).merge(order, 1, Integer::sum);
        }
        for (Map.Entry<Integer, TreeMap<Integer, Integer>> e : counts.entrySet()) {
            int most = 0;
            for (Map.Entry<Integer, Integer> c : e.getValue().entrySet()) {
                if (c.getValue() > most) {
                    most = c.getValue();
                    t.told.put(e.getKey(), c.getKey() == Integer.MAX_VALUE ? NONE : c.getKey());
                }
            }
        }
    }

    static int[] parts(int number) {
        int pair = number % 128;
        for (int a = 0; a < 16; a++) {
            for (int b = a + 1; b < 16; b++) {
                if (PAIRS[a][b] == pair) {
                    return new int[] {number / 2048, number / 128 % 16, a, b};
                }
            }
        }
        return null;
    }

    // ---- the calls

    private void record() {
        history.add(scene.copy());
        if (history.size() > 6) {
            history.remove(0);
        }
    }

    int set(int setting, int value) {
        if (setting < 0 || setting > 2 || value != 0 && value != 1) {
            return BAD_VALUE;
        }
        record();
        int old = scene.settings[setting];
        scene.settings[setting] = value;
        return old;
    }

    int block(int place) {
        if (!isPlace(place)) {
            return NO_SUCH;
        }
        if (!scene.blocked.contains(place) && scene.blocked.size() == 6) {
            return TOO_MANY;
        }
        if (place == scene.fox || place == scene.low || place == scene.high) {
            return NOT_POSSIBLE;
        }
        record();
        if (!scene.blocked.remove(place)) {
            scene.blocked.add(place);
        }
        return scene.blocked.size();
    }

    private int error(int who, int fox, int one, int other) {
        if (!isPlace(fox) || !isPlace(one) || !isPlace(other)) {
            return NO_SUCH;
        }
        if (who != 0 && who != 1 || fox == one || fox == other || one == other) {
            return BAD_VALUE;
        }
        if (scene.blocked.contains(fox) || scene.blocked.contains(one) || scene.blocked.contains(other)) {
            return BAD_VALUE;
        }
        return 0;
    }

    int setUp(int who, int fox, int one, int other) {
        int error = error(who, fox, one, other);
        if (error != 0) {
            return error;
        }
        record();
        scene.who = who;
        scene.fox = fox;
        scene.low = Math.min(one, other);
        scene.high = Math.max(one, other);
        return now(5);
    }

    private List<int[]> movesNow(Scene s) {
        return moves(s, s.who, s.fox, s.low, s.high);
    }

    private boolean caught(Scene s) {
        return s.fox == s.low || s.fox == s.high || s.who == 1 && movesNow(s).isEmpty();
    }

    private void make(Scene s, int from, int to) {
        if (s.who == 1) {
            s.fox = to;
        } else {
            int other = from == s.low ? s.high : s.low;
            s.low = Math.min(to, other);
            s.high = Math.max(to, other);
        }
        s.who = 1 - s.who;
    }

    int move(int from, int to) {
        if (!isPlace(from) || !isPlace(to)) {
            return NO_SUCH;
        }
        boolean may = false;
        for (int[] m : movesNow(scene)) {
            may |= m[0] == from && m[1] == to;
            // To stay is told as a move of the lower hunter, but may be made with either.
            may |= m[0] == m[1] && from == to && from == scene.high;
        }
        if (!may || caught(scene)) {
            return NOT_POSSIBLE;
        }
        record();
        make(scene, from, to);
        return caught(scene) ? 1 : 0;
    }

    /** The best move of a scene on the board of now, or null. */
    private int[] best(Scene s) {
        if (caught(s)) {
            return null;
        }
        int[] best = null;
        long bestWorth = 0;
        for (int[] m : movesNow(s)) {
            int next = after(s.who, s.fox, s.low, s.high, m);
            long worth;
            if (next == -1) {
                worth = -1;
            } else {
                int d = table().distance.get(next);
                worth = d == NONE ? Integer.MAX_VALUE : d;
            }
            if (s.who == 0) {
                worth = -worth;
            }
            if (best == null || worth > bestWorth) {
                best = m;
                bestWorth = worth;
            }
        }
        return best;
    }

    int play() {
        int[] best = best(scene);
        return best == null ? NOT_POSSIBLE : move(best[0], best[1]);
    }

    int fault() {
        for (int i = 0; i < pad.length(); i++) {
            String may = i >= 20 ? "" : i == 19 ? "hf" : i == 4 || i == 9 || i == 14 ? "/" : ".#FH";
            if (may.indexOf(pad.charAt(i)) < 0) {
                return i;
            }
        }
        return pad.length() < 20 ? pad.length() : NONE;
    }

    int readPad() {
        if (fault() != NONE) {
            return BAD_TEXT;
        }
        String rows = pad.substring(0, 19).replace("/", "");
        List<Integer> foxes = new ArrayList<>();
        List<Integer> hunters = new ArrayList<>();
        TreeSet<Integer> blocked = new TreeSet<>();
        for (int i = 0; i < 16; i++) {
            switch (rows.charAt(i)) {
                case 'F' -> foxes.add(i);
                case 'H' -> hunters.add(i);
                case '#' -> blocked.add(i);
                default -> { }
            }
        }
        if (foxes.size() != 1 || hunters.size() != 2) {
            return NOT_POSSIBLE;
        }
        if (blocked.size() > 6) {
            return TOO_MANY;
        }
        record();
        scene.blocked = blocked;
        scene.who = pad.charAt(19) == 'f' ? 1 : 0;
        scene.fox = foxes.get(0);
        scene.low = hunters.get(0);
        scene.high = hunters.get(1);
        pad = "";
        return now(5);
    }

    int now(int what) {
        boolean onFox = scene.fox == scene.low || scene.fox == scene.high;
        int number = onFox ? NONE : numberOf(scene.who, scene.fox, scene.low, scene.high);
        int[] best = what == 6 || what == 7 ? best(scene) : null;
        int mask = 0;
        for (int place : scene.blocked) {
            mask |= 1 << place;
        }
        return switch (what) {
            case 0 -> scene.who;
            case 1 -> scene.fox;
            case 2 -> scene.low;
            case 3 -> scene.high;
            case 4 -> caught(scene) ? 1 : 0;
            case 5 -> caught(scene) ? 0 : table().distance.get(number);
            case 6 -> best == null ? NONE : best[0];
            case 7 -> best == null ? NONE : best[1];
            case 8 -> number;
            case 9 -> onFox ? NONE : table().alike.get(number).first();
            case 10 -> mask;
            case 11, 12, 13 -> scene.settings[what - 11];
            case 14 -> pad.length();
            case 15 -> history.size();
            default -> BAD_VALUE;
        };
    }

    int distance(int who, int fox, int one, int other) {
        int error = error(who, fox, one, other);
        return error != 0 ? error : table().distance.get(numberOf(who, fox, one, other));
    }

    int number(int who, int fox, int one, int other) {
        int error = error(who, fox, one, other);
        return error != 0 ? error : numberOf(who, fox, one, other);
    }

    int folded(int who, int fox, int one, int other) {
        int error = error(who, fox, one, other);
        return error != 0 ? error : table().alike.get(numberOf(who, fox, one, other)).first();
    }

    int of(int number, int what) {
        if (number < 0 || number > 4095 || what < 0 || what > 6) {
            return BAD_VALUE;
        }
        if (!table().distance.containsKey(number)) {
            return NO_SUCH;
        }
        int[] p = parts(number);
        return switch (what) {
            case 4 -> table().distance.get(number);
            case 5 -> table().told.get(key(p));
            case 6 -> table().alike.get(number).size();
            default -> p[what];
        };
    }

    int line(int moves) {
        if (moves < 1 || moves > 60) {
            return BAD_VALUE;
        }
        Scene s = scene.copy();
        for (int i = 0; i < moves; i++) {
            int[] best = best(s);
            if (best == null) {
                return NONE;
            }
            make(s, best[0], best[1]);
        }
        return caught(s) ? NONE : numberOf(s.who, s.fox, s.low, s.high);
    }

    int all(int what) {
        if (what < 0 || what > 10) {
            return BAD_VALUE;
        }
        Table t = table();
        int greatest = NONE;
        int first = NONE;
        for (Map.Entry<Integer, Integer> e : t.distance.entrySet()) {
            if (e.getValue() > greatest) {
                greatest = e.getValue();
                first = e.getKey();
            }
        }
        StringBuilder row = new StringBuilder();
        TreeSet<Integer> blocks = new TreeSet<>();
        for (int number : t.standing) {
            boolean exception = !t.distance.get(number).equals(t.told.get(key(parts(number))));
            row.append(exception ? 'x' : ' ');
            if (exception) {
                blocks.add(number / 64);
            }
        }
        int runs = 0;
        int longest = 0;
        for (String run : row.toString().split(" +")) {
            runs += run.isEmpty() ? 0 : 1;
            longest = Math.max(longest, run.length());
        }
        return switch (what) {
            case 0 -> t.distance.size();
            case 1 -> t.standing.size();
            case 2 -> t.symmetries;
            case 3 -> greatest;
            case 4 -> first;
            case 5 -> withDistance(NONE);
            case 6 -> row.toString().replace(" ", "").length();
            case 7 -> runs;
            case 8 -> blocks.size();
            case 9 -> longest;
            default -> t.told.size();
        };
    }

    int withDistance(int distance) {
        if (distance != NONE && (distance < 0 || distance > 200)) {
            return BAD_VALUE;
        }
        int count = 0;
        for (int number : table().standing) {
            if (table().distance.get(number) == distance) {
                count++;
            }
        }
        return count;
    }

    int rule(int key) {
        if (key < 0 || key > 97) {
            return BAD_VALUE;
        }
        return table().told.getOrDefault(key, NO_SUCH);
    }

    int put(long characters) {
        String text = "";
        boolean ended = false;
        boolean bad = false;
        for (int i = 0; i < 8; i++) {
            int code = (int) ((characters >> (8 * i)) & 0xFF);
            if (code == 0) {
                ended = true;
            } else {
                bad |= ended || code < 33 || code > 126;
                text = (char) code + text;
            }
        }
        if (bad || text.isEmpty()) {
            return BAD_VALUE;
        }
        if (pad.length() + text.length() > 24) {
            return TOO_MANY;
        }
        pad = pad + text;
        return pad.length();
    }

    int wipe() {
        int length = pad.length();
        pad = "";
        return length;
    }

    int undo() {
        if (history.isEmpty()) {
            return NOT_POSSIBLE;
        }
        scene = history.remove(history.size() - 1);
        return history.size();
    }

    int save(int slot) {
        if (slot != 0 && slot != 1) {
            return BAD_VALUE;
        }
        slots[slot] = scene.copy();
        return scene.blocked.size();
    }

    int restore(int slot) {
        if (slot != 0 && slot != 1) {
            return BAD_VALUE;
        }
        if (slots[slot] == null) {
            return NOT_POSSIBLE;
        }
        record();
        scene = slots[slot].copy();
        return scene.blocked.size();
    }
}
