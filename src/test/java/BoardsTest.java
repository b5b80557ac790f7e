import java.util.Map;
import java.util.TreeSet;

/**
 * Whole boards, compared with the model: the distance of each position, who stands for it, what the rule tells,
 * and all counts. Without arguments a fixed choice of boards; with "all" every board there is, in some minutes.
 */
final class BoardsTest {
    private final Checks checks = new Checks();

    public static void main(String[] args) {
        BoardsTest test = new BoardsTest();
        boolean every = args.length > 0 && args[0].equals("all");
        int part = args.length > 2 ? Integer.parseInt(args[1]) : 0;
        int parts = args.length > 2 ? Integer.parseInt(args[2]) : 1;
        int index = 0;
        for (int blocked = 0; blocked < 1 << 16; blocked++) {
            if (Integer.bitCount(blocked) > 6) {
                continue;
            }
            for (int settings = 0; settings < 8; settings++) {
                boolean chosen = every ? index % parts == part : index % 709 == 0 || blocked == 0;
                if (chosen) {
                    test.compare(blocked, settings);
                }
                index++;
            }
        }
        test.checks.holds("there are 119,144 boards with settings", index == 119144);
        test.checks.end("BoardsTest");
    }

    private void compare(int blocked, int settings) {
        Model model = new Model();
        model.scene.blocked = new TreeSet<>();
        for (int place = 0; place < 16; place++) {
            if ((blocked >> place & 1) != 0) {
                model.scene.blocked.add(place);
            }
        }
        for (int setting = 0; setting < 3; setting++) {
            model.scene.settings[setting] = settings >> setting & 1;
        }
        Model.Table table = model.table();
        String name = "board " + blocked + ", settings " + settings + ": ";
        BoardEnds x = board(blocked, settings);
        int calls = 0;
        for (int number = 0; number < 4096; number += 1) {
            if (calls > 400) {
                x = board(blocked, settings);
                calls = 0;
            }
            Integer due = table.distance.get(number);
            checks.due(name + "of(" + number + ", 4)", x.of(number, 4), due == null ? Model.NO_SUCH : due);
            calls++;
            if (due != null && number % 5 == 0) {
                int[] p = Model.parts(number);
                int alike = table.alike.get(number).size();
                checks.due(name + "of(" + number + ", 5)", x.of(number, 5), table.told.get(Model.key(p)));
                checks.due(name + "of(" + number + ", 6)", x.of(number, 6), alike);
                int lowest = table.alike.get(number).first();
                checks.due(name + "folded of " + number, x.folded(p[0], p[1], p[3], p[2]), lowest);
                calls += 3;
            }
        }
        compareCounts(name, board(blocked, settings), model);
    }

    private void compareCounts(String name, BoardEnds x, Model model) {
        for (int what = 0; what < 11; what++) {
            checks.due(name + "all(" + what + ")", x.all(what), model.all(what));
        }
        for (int key = 0; key < 98; key++) {
            checks.due(name + "rule(" + key + ")", x.rule(key), model.rule(key));
        }
        int sum = 0;
        for (int distance = 0; distance <= 200; distance++) {
            sum += x.withDistance(distance);
        }
        checks.due(name + "distances, added", sum + x.withDistance(BoardEnds.NONE), model.all(1));
        Map.Entry<Integer, Integer> last = model.table().distance.lastEntry();
        checks.due(name + "withDistance", x.withDistance(last.getValue()), model.withDistance(last.getValue()));
    }

    /** A new object with this board, set up by a text. */
    private BoardEnds board(int blocked, int settings) {
        BoardEnds x = new BoardEnds();
        for (int setting = 0; setting < 3; setting++) {
            x.set(setting, settings >> setting & 1);
        }
        StringBuilder text = new StringBuilder();
        String pieces = "FHH";
        int piece = 0;
        for (int place = 0; place < 16; place++) {
            boolean free = (blocked >> place & 1) == 0;
            text.append(!free ? '#' : piece < 3 ? pieces.charAt(piece) : '.');
            piece += free ? 1 : 0;
            text.append(place == 15 ? "h" : place % 4 == 3 ? "/" : "");
        }
        checks.due("put of " + text, Texts.put(x, text.toString()), 20);
        checks.holds("readPad of " + text, x.readPad() >= 0 || x.now(5) == BoardEnds.NONE);
        return x;
    }
}
