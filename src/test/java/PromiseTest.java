/** Each promise of the document by itself: ordinary calls, the edges that it names, and wrong arguments. */
final class PromiseTest {
    private static final int NO_SUCH = -1, BAD_VALUE = -2, BAD_TEXT = -3, TOO_MANY = -4, NOT_POSSIBLE = -5, NONE = -6;

    private final Checks checks = new Checks();

    public static void main(String[] args) {
        PromiseTest t = new PromiseTest();
        t.constants();
        t.newObject();
        t.set();
        t.block();
        t.setUp();
        t.moveOfHunters();
        t.moveOfFox();
        t.moveAcrossCorners();
        t.moveThatStays();
        t.play();
        t.playTies();
        t.readPad();
        t.now();
        t.nowWhenCaught();
        t.distance();
        t.number();
        t.folded();
        t.of();
        t.line();
        t.all();
        t.withDistance();
        t.rule();
        t.put();
        t.wipe();
        t.fault();
        t.undo();
        t.undoOfEachChange();
        t.save();
        t.restore();
        t.errorsChangeNothing();
        t.tablesFollowTheBoard();
        t.severalObjects();
        t.checks.end("PromiseTest");
    }

    private void due(String call, long got, long want) {
        checks.due(call, got, want);
    }

    /** The pieces of the position: who moves, fox, hunters. */
    private void stands(String when, BoardEnds x, int who, int fox, int low, int high) {
        due(when + ": who", x.now(0), who);
        due(when + ": fox", x.now(1), fox);
        due(when + ": low", x.now(2), low);
        due(when + ": high", x.now(3), high);
    }

    private BoardEnds read(String text) {
        BoardEnds x = new BoardEnds();
        due("put " + text, Texts.put(x, text), text.length());
        checks.holds("reads " + text, x.readPad() >= NONE && x.now(14) == 0);
        return x;
    }

    private void constants() {
        due("NO_SUCH", BoardEnds.NO_SUCH, -1);
        due("BAD_VALUE", BoardEnds.BAD_VALUE, -2);
        due("BAD_TEXT", BoardEnds.BAD_TEXT, -3);
        due("TOO_MANY", BoardEnds.TOO_MANY, -4);
        due("NOT_POSSIBLE", BoardEnds.NOT_POSSIBLE, -5);
        due("NONE", BoardEnds.NONE, -6);
        due("FOX", BoardEnds.FOX, 0);
        due("HUNT", BoardEnds.HUNT, 1);
        due("PASS", BoardEnds.PASS, 2);
    }

    // Promise 1
    private void newObject() {
        BoardEnds x = new BoardEnds();
        stands("new", x, 0, 5, 0, 15);
        for (int what = 10; what <= 15; what++) {
            due("new: now(" + what + ")", x.now(what), 0);
        }
        due("new: now(4)", x.now(4), 0);
        due("new: fault()", x.fault(), 0);
        due("new: undo()", x.undo(), NOT_POSSIBLE);
        due("new: restore(0)", x.restore(0), NOT_POSSIBLE);
        due("new: restore(1)", x.restore(1), NOT_POSSIBLE);
    }

    // Promise 2
    private void set() {
        BoardEnds x = new BoardEnds();
        for (int setting = 0; setting < 3; setting++) {
            due("first set", x.set(setting, 1), 0);
            due("set again", x.set(setting, 1), 1);
            due("now of the setting", x.now(11 + setting), 1);
            due("set back", x.set(setting, 0), 1);
            due("now of it then", x.now(11 + setting), 0);
            due("set of 1 in the end", x.set(setting, 1), 0);
        }
        due("set(-1, 0)", x.set(-1, 0), BAD_VALUE);
        due("set(3, 0)", x.set(3, 0), BAD_VALUE);
        due("set(0, 2)", x.set(0, 2), BAD_VALUE);
        due("set(0, -1)", x.set(0, -1), BAD_VALUE);
        due("set(32, 1)", x.set(32, 1), BAD_VALUE);
        due("set(MIN, MAX)", x.set(Integer.MIN_VALUE, Integer.MAX_VALUE), BAD_VALUE);
        for (int setting = 0; setting < 3; setting++) {
            due("still set", x.now(11 + setting), 1);
        }
    }

    // Promise 3
    private void block() {
        BoardEnds x = new BoardEnds();
        due("block(-1)", x.block(-1), NO_SUCH);
        due("block(16)", x.block(16), NO_SUCH);
        due("block(37)", x.block(37), NO_SUCH);
        due("block of the fox", x.block(5), NOT_POSSIBLE);
        due("block of the lower hunter", x.block(0), NOT_POSSIBLE);
        due("block of the higher hunter", x.block(15), NOT_POSSIBLE);
        int[] places = {1, 2, 3, 4, 6, 7};
        for (int i = 0; i < 6; i++) {
            due("block of one more", x.block(places[i]), i + 1);
        }
        due("the blocked places", x.now(10), 2 + 4 + 8 + 16 + 64 + 128);
        due("block of a seventh", x.block(8), TOO_MANY);
        due("too many comes before the fox", x.block(5), TOO_MANY);
        due("and before a hunter", x.block(15), TOO_MANY);
        due("no such place comes first", x.block(16), NO_SUCH);
        due("free one of six", x.block(3), 5);
        due("the blocked places then", x.now(10), 2 + 4 + 16 + 64 + 128);
        due("the fox again", x.block(5), NOT_POSSIBLE);
        due("block another sixth", x.block(14), 6);
    }

    // Promise 4
    private void setUp() {
        BoardEnds x = new BoardEnds();
        due("fox caught", x.setUp(1, 0, 4, 1), 0);
        stands("set up", x, 1, 0, 1, 4);
        due("catch", x.setUp(0, 0, 1, 4), 1);
        due("one step from the end", x.setUp(0, 0, 2, 4), 1);
        due("the fox must go to 4", x.setUp(1, 0, 8, 1), 2);
        due("three", x.setUp(0, 0, 2, 8), 3);
        due("fox 16", x.setUp(0, 16, 2, 3), NO_SUCH);
        due("fox -1", x.setUp(0, -1, 2, 3), NO_SUCH);
        due("one 16", x.setUp(0, 1, 16, 3), NO_SUCH);
        due("one -1", x.setUp(0, 1, -1, 3), NO_SUCH);
        due("other 16", x.setUp(0, 1, 2, 16), NO_SUCH);
        due("other -1", x.setUp(0, 1, 2, -1), NO_SUCH);
        due("no place comes before who", x.setUp(2, 1, 2, 16), NO_SUCH);
        due("no place comes before the same", x.setUp(0, 16, 16, 1), NO_SUCH);
        due("who 2", x.setUp(2, 1, 2, 3), BAD_VALUE);
        due("who -1", x.setUp(-1, 1, 2, 3), BAD_VALUE);
        due("fox and one", x.setUp(0, 1, 1, 3), BAD_VALUE);
        due("fox and other", x.setUp(0, 1, 3, 1), BAD_VALUE);
        due("one and other", x.setUp(0, 1, 3, 3), BAD_VALUE);
        stands("errors change nothing", x, 0, 0, 2, 8);
        x.block(5);
        due("fox blocked", x.setUp(0, 5, 2, 3), BAD_VALUE);
        due("one blocked", x.setUp(0, 2, 5, 3), BAD_VALUE);
        due("other blocked", x.setUp(0, 2, 3, 5), BAD_VALUE);
        due("no place comes before blocked", x.setUp(0, 5, 2, 16), NO_SUCH);
        BoardEnds shut = read("FH#./##../..H./....h");
        due("without a distance", shut.setUp(1, 0, 10, 15), NONE);
        due("changes that can be undone", shut.now(15), 2);
    }

    // Promise 5
    private void moveOfHunters() {
        BoardEnds x = new BoardEnds();
        due("from -1", x.move(-1, 1), NO_SUCH);
        due("from 16", x.move(16, 1), NO_SUCH);
        due("to -1", x.move(0, -1), NO_SUCH);
        due("to 16", x.move(15, 16), NO_SUCH);
        due("from no hunter", x.move(1, 2), NOT_POSSIBLE);
        due("from the fox", x.move(5, 6), NOT_POSSIBLE);
        due("two steps", x.move(0, 2), NOT_POSSIBLE);
        due("across a corner", x.move(0, 5), NOT_POSSIBLE);
        due("to stay", x.move(0, 0), NOT_POSSIBLE);
        due("round the edge", x.setUp(0, 0, 3, 10) > 0 ? x.move(3, 4) : 0, NOT_POSSIBLE);
        due("up over the edge", x.move(3, 15), NOT_POSSIBLE);
        due("a step down", x.move(3, 7), 0);
        stands("a step down", x, 1, 0, 7, 10);
        x.setUp(0, 0, 6, 10);
        due("to the other hunter", x.move(6, 10), NOT_POSSIBLE);
        x.block(7);
        due("to a blocked place", x.move(6, 7), NOT_POSSIBLE);
        due("hunters may cross in order", x.move(10, 9), 0);
        stands("step", x, 1, 0, 6, 9);
        x.setUp(0, 0, 4, 6);
        due("a catch", x.move(4, 0), 1);
        stands("a catch", x, 1, 0, 0, 6);
        due("nobody moves when the fox is caught", x.move(0, 1), NOT_POSSIBLE);
        due("nor a hunter", x.move(6, 5), NOT_POSSIBLE);
        due("no such place comes first", x.move(0, 16), NO_SUCH);
        x.setUp(0, 0, 2, 4);
        due("a step that leaves the fox no move", x.move(2, 1), 1);
        due("it is caught", x.now(4), 1);
        due("it cannot move", x.move(0, 1), NOT_POSSIBLE);
        x.setUp(0, 6, 1, 4);
        due("the lower hunter becomes the higher one", x.move(1, 5), 0);
        stands("the order", x, 1, 6, 4, 5);
    }

    private void moveOfFox() {
        BoardEnds x = new BoardEnds();
        x.setUp(1, 5, 6, 15);
        x.block(9);
        due("from a hunter", x.move(15, 14), NOT_POSSIBLE);
        due("to a hunter", x.move(5, 6), NOT_POSSIBLE);
        due("to a blocked place", x.move(5, 9), NOT_POSSIBLE);
        due("to stay", x.move(5, 5), NOT_POSSIBLE);
        due("across a corner", x.move(5, 0), NOT_POSSIBLE);
        due("up", x.move(5, 1), 0);
        stands("up", x, 0, 1, 6, 15);
        due("the hunters move then", x.move(1, 0), NOT_POSSIBLE);
        x.setUp(1, 4, 6, 15);
        due("round the edge", x.move(4, 3), NOT_POSSIBLE);
        x.set(BoardEnds.PASS, 1);
        due("the fox never stays", x.move(4, 4), NOT_POSSIBLE);
        due("nor does a hunter then", x.move(6, 6), NOT_POSSIBLE);
        due("left edge down", x.move(4, 8), 0);
    }

    private void moveAcrossCorners() {
        BoardEnds x = new BoardEnds();
        x.set(BoardEnds.FOX, 1);
        due("the hunters not", x.move(15, 10), NOT_POSSIBLE);
        x.setUp(1, 5, 6, 15);
        due("the fox", x.move(5, 10), 0);
        x.setUp(1, 8, 6, 15);
        due("not round the edge", x.move(8, 3), NOT_POSSIBLE);
        due("not two columns away", x.move(8, 6), NOT_POSSIBLE);
        BoardEnds y = new BoardEnds();
        y.set(BoardEnds.HUNT, 1);
        due("a catch across a corner", y.move(0, 5), 1);
        y.setUp(1, 5, 6, 15);
        due("the fox not", y.move(5, 10), NOT_POSSIBLE);
        BoardEnds z = new BoardEnds();
        z.setUp(1, 0, 1, 4);
        due("caught", z.now(4), 1);
        z.set(BoardEnds.FOX, 1);
        due("free across the corner", z.now(4), 0);
        due("it goes there", z.move(0, 5), 0);
    }

    private void moveThatStays() {
        BoardEnds x = new BoardEnds();
        x.set(BoardEnds.PASS, 1);
        due("a place without a hunter", x.move(1, 1), NOT_POSSIBLE);
        due("the place of the fox", x.move(5, 5), NOT_POSSIBLE);
        due("the lower hunter", x.move(0, 0), 0);
        stands("stayed", x, 1, 5, 0, 15);
        x.undo();
        due("the higher hunter", x.move(15, 15), 0);
        stands("stayed", x, 1, 5, 0, 15);
        due("a change", x.now(15), 2);
        x.setUp(0, 0, 1, 4);
        due("to stay can catch, too", x.move(4, 4), 1);
    }

    // Promise 6
    private void play() {
        BoardEnds x = new BoardEnds();
        int[] distances = {9, 8, 7, 6, 5, 4, 3, 2, 1};
        for (int i = 0; i < distances.length; i++) {
            due("the distance falls by one", x.now(5), distances[i]);
            due("played", x.play(), i == 8 ? 1 : 0);
        }
        due("caught", x.now(4), 1);
        due("nothing to play", x.play(), NOT_POSSIBLE);
        due("the history is full", x.now(15), 6);
        x.setUp(0, 0, 2, 8);
        due("to the corner", x.play(), 0);
        stands("2 goes to 1", x, 1, 0, 1, 8);
        due("the fox's only move", x.play(), 0);
        stands("0 goes to 4", x, 0, 4, 1, 8);
        due("a catch", x.play(), 1);
        stands("8 goes to 4", x, 1, 4, 1, 4);
        x.setUp(1, 0, 1, 4);
        due("the fox has no move", x.play(), NOT_POSSIBLE);
        BoardEnds y = read("HH#./##../..F./....h");
        due("the hunters have no move", y.play(), NOT_POSSIBLE);
        due("they have not caught it", y.now(4), 0);
        y.set(BoardEnds.PASS, 1);
        due("they stay", y.play(), 0);
        stands("they stay", y, 1, 10, 0, 1);
    }

    private void best(String when, BoardEnds x, int from, int to) {
        due(when + ": from", x.now(6), from);
        due(when + ": to", x.now(7), to);
    }

    private void playTies() {
        BoardEnds x = new BoardEnds();
        x.setUp(0, 5, 4, 6);
        best("of two catches that of the lower hunter", x, 4, 5);
        x.setUp(0, 0, 2, 4);
        best("a catch before a step that leaves no move", x, 4, 0);
        x.setUp(0, 0, 1, 4);
        x.set(BoardEnds.PASS, 1);
        best("a catch before to stay", x, 1, 0);
        BoardEnds shut = read("F.#./##H./..H./....h");
        due("nobody comes to the fox", shut.now(5), NONE);
        best("of moves without an end the first", shut, 6, 7);
        shut.set(BoardEnds.PASS, 1);
        best("to stay is behind them", shut, 6, 7);
        shut.setUp(1, 1, 6, 10);
        best("the fox's first move without an end", shut, 1, 0);
        BoardEnds alone = read("F#.H/#.../..H./....h");
        due("the fox has no move anyway", alone.now(5), 1);
        alone.set(BoardEnds.PASS, 1);
        best("of all moves the first", alone, 3, 2);
        BoardEnds hidden = read("F..H/####/.#H./....f");
        hidden.set(BoardEnds.FOX, 1);
        due("the fox is not safe", hidden.now(5), 4);
        BoardEnds fox = read("...#/.F#H/##../.H..f");
        due("behind the wall", fox.now(5), NONE);
        best("the first place without an end", fox, 5, 1);
    }

    // Promise 7
    private void readPad() {
        BoardEnds x = new BoardEnds();
        x.set(BoardEnds.FOX, 1);
        x.block(9);
        Texts.put(x, "#.H./.F../..../H..#f");
        checks.holds("readPad tells the distance", x.readPad() == x.now(5) && x.now(5) > 0);
        stands("read", x, 1, 5, 2, 12);
        due("blocked as read alone", x.now(10), 1 + (1 << 15));
        due("the settings stay", x.now(11), 1);
        due("the pad is empty", x.now(14), 0);
        due("a change", x.now(15), 3);
        due("undone", x.undo(), 2);
        stands("undone", x, 0, 5, 0, 15);
        due("blocked as before", x.now(10), 1 << 9);
        due("the pad stays empty", x.now(14), 0);
        due("empty pad", x.readPad(), BAD_TEXT);
        refused("..../..../..../....h", NOT_POSSIBLE);
        refused("F.../..../..../...Hh", NOT_POSSIBLE);
        refused("F.../HHH./..../....h", NOT_POSSIBLE);
        refused("FF../HH../..../....h", NOT_POSSIBLE);
        refused("####/###./..../..FHh", NOT_POSSIBLE);
        refused("####/###./..H./..FHh", TOO_MANY);
        refused("####/####/FHH#/####h", TOO_MANY);
        refused("F.HH/..../..../....", BAD_TEXT);
        refused("FFHH/..../..../....x", BAD_TEXT);
        refused("F.HH/..../..../....h.", BAD_TEXT);
        refused("F.HH/..../..../..../h", BAD_TEXT);
        due("six blocked", read("####/##../..H./..FHh").now(5), 1);
        due("a fox without a move", read("F#../#.../..../..HHf").now(5), 0);
        due("without a distance", read("F.#./##../..../..HHf").now(5), NONE);
        BoardEnds y = new BoardEnds();
        Texts.put(y, "F.#./##../..../..HHh");
        due("readPad of it", y.readPad(), NONE);
    }

    private void refused(String text, int error) {
        BoardEnds x = new BoardEnds();
        Texts.put(x, text);
        due("readPad of " + text, x.readPad(), error);
        due("the pad stays", x.now(14), text.length());
        due("no change", x.now(15), 0);
        due("nothing blocked", x.now(10), 0);
        stands("refused", x, 0, 5, 0, 15);
    }

    // Promise 8
    private void now() {
        BoardEnds x = new BoardEnds();
        int[] want = {0, 5, 0, 15, 0, 9, 0, 1, 654, 654, 0, 0, 0, 0, 0, 0};
        for (int what = 0; what < 16; what++) {
            due("now(" + what + ")", x.now(what), want[what]);
        }
        due("now(-1)", x.now(-1), BAD_VALUE);
        due("now(16)", x.now(16), BAD_VALUE);
        due("now(MIN)", x.now(Integer.MIN_VALUE), BAD_VALUE);
        due("now(MAX)", x.now(Integer.MAX_VALUE), BAD_VALUE);
        x.set(BoardEnds.HUNT, 1);
        due("now(11)", x.now(11), 0);
        due("now(12)", x.now(12), 1);
        due("now(13)", x.now(13), 0);
        x.put(Texts.number("abc"));
        due("now(14)", x.now(14), 3);
        due("now(15)", x.now(15), 1);
        x.setUp(1, 15, 14, 13);
        due("now(8)", x.now(8), 2048 + 128 * 15 + 117);
        due("now(9): fox 0, hunters 1 and 2", x.now(9), 2048 + 15);
        x.block(3);
        due("now(10)", x.now(10), 8);
        due("now(9): fox 0, hunters 4 and 8", x.now(9), 2048 + 57);
    }

    private void nowWhenCaught() {
        BoardEnds x = new BoardEnds();
        x.setUp(0, 5, 4, 6);
        x.move(6, 5);
        int[] want = {1, 5, 4, 5, 1, 0, NONE, NONE, NONE, NONE};
        for (int what = 0; what < want.length; what++) {
            due("stepped on: now(" + what + ")", x.now(what), want[what]);
        }
        due("block of the fox and the hunter", x.block(5), NOT_POSSIBLE);
        due("block of the place left", x.block(6), 1);
        due("still caught", x.now(4), 1);
        x.set(BoardEnds.FOX, 1);
        due("caught with other steps, too", x.now(4), 1);
        x.setUp(1, 0, 1, 4);
        x.set(BoardEnds.FOX, 0);
        int[] shut = {1, 0, 1, 4, 1, 0, NONE, NONE, 2048 + 17, 2048 + 17};
        for (int what = 0; what < shut.length; what++) {
            due("without a move: now(" + what + ")", x.now(what), shut[what]);
        }
    }

    // Promise 9
    private void distance() {
        BoardEnds x = new BoardEnds();
        due("caught", x.distance(1, 0, 1, 4), 0);
        due("the order of the hunters is the same", x.distance(1, 0, 4, 1), 0);
        due("a catch", x.distance(0, 0, 4, 15), 1);
        due("a step that leaves no move", x.distance(0, 15, 13, 11), 1);
        due("two", x.distance(1, 0, 1, 8), 2);
        due("three", x.distance(0, 0, 2, 8), 3);
        due("the first position", x.distance(0, 5, 0, 15), 9);
        x.set(BoardEnds.HUNT, 1);
        due("hunters across corners", x.distance(0, 5, 0, 15), 1);
        errors(x, 9);
        due("nothing is a change", x.now(15), 1);
        BoardEnds y = read("F.#./##../..../..HHh");
        due("none", y.distance(1, 1, 14, 15), NONE);
        due("blocked", y.distance(1, 2, 14, 15), BAD_VALUE);
        due("blocked", y.distance(1, 1, 4, 15), BAD_VALUE);
        due("blocked", y.distance(1, 1, 14, 5), BAD_VALUE);
    }

    private int ask(BoardEnds x, int promise, int[] a) {
        return promise == 9 ? x.distance(a[0], a[1], a[2], a[3])
                : promise == 10 ? x.number(a[0], a[1], a[2], a[3]) : x.folded(a[0], a[1], a[2], a[3]);
    }

    private void errors(BoardEnds x, int promise) {
        int[][] noSuch = {{0, 16, 1, 2}, {0, -1, 1, 2}, {0, 0, 16, 2}, {0, 0, -1, 2}, {0, 0, 1, 16}, {0, 0, 1, -1},
            {2, 16, 1, 2}, {0, 16, 16, 1}, {-1, 1, 1, 99}};
        int[][] bad = {{2, 0, 1, 2}, {-1, 0, 1, 2}, {0, 1, 1, 2}, {0, 1, 2, 1}, {0, 0, 1, 1}, {1, 3, 3, 3}};
        for (int[] a : noSuch) {
            due("promise " + promise + ", no such place", ask(x, promise, a), NO_SUCH);
        }
        for (int[] a : bad) {
            due("promise " + promise + ", bad value", ask(x, promise, a), BAD_VALUE);
        }
    }

    // Promise 10
    private void number() {
        BoardEnds x = new BoardEnds();
        due("the first", x.number(0, 2, 0, 1), 256);
        due("pair 1", x.number(0, 15, 2, 0), 128 * 15 + 1);
        due("pair 14", x.number(0, 14, 0, 15), 128 * 14 + 14);
        due("pair 15", x.number(0, 0, 1, 2), 15);
        due("pair 29", x.number(1, 0, 2, 3), 2048 + 29);
        due("pair 119", x.number(1, 0, 15, 14), 2048 + 119);
        due("the last", x.number(1, 15, 13, 14), 4085);
        errors(x, 10);
        x.block(7);
        due("blocked", x.number(0, 7, 1, 2), BAD_VALUE);
        due("blocked", x.number(0, 1, 7, 2), BAD_VALUE);
        due("blocked", x.number(0, 1, 2, 7), BAD_VALUE);
        due("blocked and no place", x.number(0, 7, 2, 16), NO_SUCH);
        due("others stay the same", x.number(0, 2, 0, 1), 256);
    }

    // Promise 11
    private void folded() {
        BoardEnds x = new BoardEnds();
        int[][] corners = {{0, 1, 2}, {3, 2, 1}, {0, 4, 8}, {12, 8, 4}, {15, 14, 13}, {15, 11, 7}, {12, 13, 14}, {3, 7, 11}};
        for (int[] c : corners) {
            due("fox in a corner", x.folded(1, c[0], c[2], c[1]), 2048 + 15);
            due("the hunters move", x.folded(0, c[0], c[1], c[2]), 15);
        }
        errors(x, 11);
        x.setUp(0, 15, 7, 14);
        x.block(0);
        due("mirrored across the corner alone", x.folded(0, 15, 11, 7), 128 * 15 + 87);
        due("the other one", x.folded(0, 15, 14, 13), 128 * 15 + 87);
        x.block(1);
        due("no symmetry", x.folded(0, 15, 14, 13), x.number(0, 15, 14, 13));
        due("blocked", x.folded(0, 1, 14, 13), BAD_VALUE);
        due("blocked", x.folded(0, 13, 1, 14), BAD_VALUE);
        due("blocked", x.folded(0, 13, 14, 0), BAD_VALUE);
        BoardEnds half = read("#.../..../..HF/H..#h");
        due("turned by half: 2 symmetries and 2 mirrors", half.all(2), 4);
        due("alike", half.folded(0, 11, 10, 12), half.number(0, 1, 5, 12));
    }

    // Promise 12
    private void of() {
        BoardEnds x = new BoardEnds();
        int number = 2048 + 128 * 5 + 14;
        int[] want = {1, 5, 0, 15, x.distance(1, 5, 0, 15), x.rule(49 + 14 + 4), 4};
        for (int what = 0; what < 7; what++) {
            due("of(" + number + ", " + what + ")", x.of(number, what), want[what]);
        }
        due("on the middle line: fox 5, hunters 0 and 15", x.of(654, 6), 4);
        due("eight alike", x.of(15, 6), 8);
        due("a fox that the hunters hold from both sides", x.of(17, 6), 4);
        due("who 0", x.of(15, 0), 0);
        for (int what = 0; what < 7; what++) {
            due("hunter on the fox", x.of(0, what), NO_SUCH);
            due("number 4095", x.of(4095, what), NO_SUCH);
            due("pair 120", x.of(120, what), NO_SUCH);
            due("pair 127", x.of(2048 + 127, what), NO_SUCH);
        }
        due("of(-1, 0)", x.of(-1, 0), BAD_VALUE);
        due("of(4096, 0)", x.of(4096, 0), BAD_VALUE);
        due("of(15, 7)", x.of(15, 7), BAD_VALUE);
        due("of(15, -1)", x.of(15, -1), BAD_VALUE);
        due("bad value comes before no such", x.of(0, 7), BAD_VALUE);
        due("of(MIN, MIN)", x.of(Integer.MIN_VALUE, Integer.MIN_VALUE), BAD_VALUE);
        x.block(1);
        due("a blocked hunter's place", x.of(15, 0), NO_SUCH);
        due("a blocked fox's place", x.of(128 + 29, 0), NO_SUCH);
        due("another position", x.of(29, 0), 0);
        due("alone", x.of(29, 6), 1);
        BoardEnds shut = read("F.#./##../..../..HHh");
        due("no distance", shut.of(2048 + 128 + 119, 4), NONE);
    }

    // Promise 13
    private void line() {
        BoardEnds x = new BoardEnds();
        x.setUp(0, 0, 2, 8);
        due("one move", x.line(1), x.number(1, 0, 1, 8));
        due("two moves", x.line(2), x.number(0, 4, 1, 8));
        due("then a catch", x.line(3), NONE);
        due("and behind it", x.line(4), NONE);
        stands("nothing moves", x, 0, 0, 2, 8);
        due("and nothing is a change", x.now(15), 1);
        due("line(0)", x.line(0), BAD_VALUE);
        due("line(-1)", x.line(-1), BAD_VALUE);
        due("line(61)", x.line(61), BAD_VALUE);
        due("line(60)", x.line(60), NONE);
        x.setUp(1, 0, 1, 4);
        due("caught already", x.line(1), NONE);
        due("bad value comes first", x.line(61), BAD_VALUE);
        BoardEnds alone = read("F#../#.H./..H./....h");
        due("the fox has no move then", alone.line(1), NONE);
        BoardEnds stuck = read("HH#./##../..F./....h");
        due("the hunters have no move", stuck.line(1), NONE);
        BoardEnds free = read("F.#./##../..../..HHh");
        due("without an end", free.line(60), free.line(56));
        checks.holds("without an end", free.line(60) >= 0);
        due("the fox's move", free.line(2), free.number(0, 1, 10, 15));
    }

    private void totals(String when, BoardEnds x, int... want) {
        for (int what = 0; what < 11; what++) {
            due(when + ": all(" + what + ")", x.all(what), want[what]);
        }
    }

    // Promise 14
    private void all() {
        BoardEnds x = new BoardEnds();
        totals("empty board", x, 3360, 438, 8, 10, 2097, 0, 205, 97, 12, 9, 40);
        due("all(-1)", x.all(-1), BAD_VALUE);
        due("all(11)", x.all(11), BAD_VALUE);
        due("all(MAX)", x.all(Integer.MAX_VALUE), BAD_VALUE);
        due("nothing is a change", x.now(15), 0);
        same("F.#./##../..../..HHh");
        same("####/##../..H./..FHh");
        same("#..#/.F../.HH./#..#f");
        same("#.../#F../.HH#/...#f");
    }

    /** The same counts as the model's. */
    private void same(String text) {
        BoardEnds x = read(text);
        Model model = new Model();
        model.pad = text;
        model.readPad();
        for (int what = 0; what < 11; what++) {
            due(text + ": all(" + what + ")", x.all(what), model.all(what));
        }
        for (int distance = NONE; distance <= 201; distance++) {
            due(text + ": withDistance", x.withDistance(distance), model.withDistance(distance));
        }
        for (int key = -1; key < 99; key++) {
            due(text + ": rule(" + key + ")", x.rule(key), model.rule(key));
        }
    }

    // Promise 15
    private void withDistance() {
        BoardEnds x = new BoardEnds();
        due("0: only the corner", x.withDistance(0), 1);
        due("1", x.withDistance(1), 79);
        due("3", x.withDistance(3), 28);
        due("200", x.withDistance(200), 0);
        due("NONE", x.withDistance(NONE), 0);
        due("201", x.withDistance(201), BAD_VALUE);
        for (int distance = -1; distance > NONE; distance--) {
            due("below 0", x.withDistance(distance), BAD_VALUE);
        }
        due("-7", x.withDistance(-7), BAD_VALUE);
        BoardEnds shut = read("F.#./##../..../..HHh");
        due("as many as all(5)", shut.withDistance(NONE), shut.all(5));
        checks.holds("some have none", shut.all(5) > 0);
    }

    // Promise 16
    private void rule() {
        BoardEnds x = new BoardEnds();
        due("both next to the fox", x.rule(8), 1);
        due("one next to the fox", x.rule(9), 1);
        due("the fox moves, both next to it", x.rule(57), 6);
        due("key 0", x.rule(0), NO_SUCH);
        due("the lesser one last", x.rule(7 * 2 + 1), NO_SUCH);
        due("both six away", x.rule(48), NO_SUCH);
        due("both six away, fox moves", x.rule(97), NO_SUCH);
        due("rule(-1)", x.rule(-1), BAD_VALUE);
        due("rule(98)", x.rule(98), BAD_VALUE);
        BoardEnds shut = read(".##./#F##/#H../.H..f");
        int none = 0;
        for (int key = 0; key < 98; key++) {
            none += shut.rule(key) == NONE ? 1 : 0;
        }
        Model model = new Model();
        model.pad = ".##./#F##/#H../.H..f";
        model.readPad();
        for (int key = 0; key < 98; key++) {
            none -= model.rule(key) == NONE ? 1 : 0;
        }
        due("keys that tell none, as in the model", none, 0);
    }

    // Promise 17
    private void put() {
        BoardEnds x = new BoardEnds();
        due("no character", x.put(0), BAD_VALUE);
        due("one", x.put('.'), 1);
        due("code 33", x.put(33), 2);
        due("code 126", x.put(126), 3);
        due("code 32", x.put(32), BAD_VALUE);
        due("code 127", x.put(127), BAD_VALUE);
        due("code 128", x.put(128), BAD_VALUE);
        due("code 255", x.put(255), BAD_VALUE);
        due("a bad code before a good one", x.put(32 * 256 + 'F'), BAD_VALUE);
        due("a bad code behind a good one", x.put('F' * 256 + 10), BAD_VALUE);
        due("nothing, and something above", x.put('F' * 256), BAD_VALUE);
        due("a gap", x.put('F' * 65536L + 'F'), BAD_VALUE);
        due("a bit far above", x.put((1L << 62) + 'F'), BAD_VALUE);
        due("below 0", x.put(-1), BAD_VALUE);
        due("the highest bit", x.put(Long.MIN_VALUE + 'F'), BAD_VALUE);
        due("the last of eight is bad", x.put(Texts.number("FFFFFFFF") - 'F' + 200), BAD_VALUE);
        due("the first of eight is bad", x.put(Texts.number("\u0080FFFFFFF")), BAD_VALUE);
        due("the length is the same", x.now(14), 3);
        due("eight", x.put(Texts.number("abcdefgh")), 11);
        due("eight more", x.put(Texts.number("~~~~~~~~")), 19);
        due("too many by three", x.put(Texts.number("12345678")), TOO_MANY);
        due("too many by one", x.put(Texts.number("123456")), TOO_MANY);
        due("nothing was put", x.now(14), 19);
        due("just enough", x.put(Texts.number("12345")), 24);
        due("full", x.put('.'), TOO_MANY);
        due("a bad value comes first", x.put(32), BAD_VALUE);
        due("not a change", x.now(15), 0);
        BoardEnds y = new BoardEnds();
        y.put(Texts.number(".F"));
        y.put(Texts.number("H"));
        y.put(Texts.number("./..H./"));
        y.put(Texts.number("..../..."));
        y.put(Texts.number(".h"));
        checks.holds("the order of the characters", y.readPad() > 0);
        stands("the order of the characters", y, 0, 1, 2, 6);
    }

    // Promise 18
    private void wipe() {
        BoardEnds x = new BoardEnds();
        due("empty", x.wipe(), 0);
        Texts.put(x, "...x");
        due("four", x.wipe(), 4);
        due("empty then", x.now(14), 0);
        due("again", x.wipe(), 0);
        due("no fault stays", x.fault(), 0);
        Texts.put(x, "123456789012345678901234");
        due("full", x.wipe(), 24);
        due("not a change", x.now(15), 0);
    }

    private void faultOf(String text, int want) {
        BoardEnds x = new BoardEnds();
        Texts.put(x, text);
        due("fault of " + text, x.fault(), want);
        due("readPad of " + text, want == NONE || x.readPad() == BAD_TEXT ? 1 : 0, 1);
    }

    // Promise 19
    private void fault() {
        String good = "#.FH/H.F#/####/FFFFf";
        for (int length = 0; length < 20; length++) {
            faultOf(good.substring(0, length), length);
        }
        faultOf(good, NONE);
        faultOf("..../..../..../....h", NONE);
        for (int at = 0; at < 20; at++) {
            boolean slash = at == 4 || at == 9 || at == 14;
            for (char sign : ".#FH/hfx!~".toCharArray()) {
                boolean can = at == 19 ? sign == 'h' || sign == 'f' : slash ? sign == '/' : ".#FH".indexOf(sign) >= 0;
                String text = good.substring(0, at) + sign + good.substring(at + 1);
                faultOf(text, can ? NONE : at);
            }
        }
        faultOf(good + "f", 20);
        faultOf(good + ".", 20);
        faultOf(good + "/..h", 20);
        faultOf("..../..../..../..../h", 19);
        faultOf("x123", 0);
        faultOf("....x..x", 4);
    }

    // Promise 20
    private void undo() {
        BoardEnds x = new BoardEnds();
        for (int i = 0; i < 8; i++) {
            due("recorded", x.block(1 + i % 2), i % 2 == 0 ? i % 4 == 0 ? 1 : 1 : i % 4 == 1 ? 2 : 0);
            due("a history of six", x.now(15), Math.min(6, i + 1));
        }
        int[] masks = {4, 6, 2, 0, 4, 6};
        for (int i = 0; i < 6; i++) {
            due("undone", x.undo(), 5 - i);
            due("the state before", x.now(10), masks[i]);
        }
        due("nothing more", x.undo(), NOT_POSSIBLE);
        x.set(0, 0);
        due("the same value is a change, too", x.now(15), 1);
        x.setUp(0, 5, 0, 15);
        due("the same position as well", x.now(15), 2);
        due("undo is no change", x.undo(), 1);
        x.put('.');
        x.save(0);
        x.block(3);
        due("undone", x.undo(), 1);
        due("the pad stays", x.now(14), 1);
        due("the slot stays", x.restore(0), 2);
    }

    private void undoOfEachChange() {
        BoardEnds x = new BoardEnds();
        x.set(BoardEnds.PASS, 1);
        x.block(10);
        x.save(1);
        x.setUp(1, 7, 2, 3);
        x.move(7, 6);
        x.play();
        x.restore(1);
        due("six", x.now(15), 6);
        stands("restored", x, 0, 5, 0, 15);
        due("restore undone", x.undo(), 5);
        due("a catch", x.now(4), 1);
        stands("the catch", x, 1, 6, 3, 6);
        due("play undone", x.undo(), 4);
        stands("before the catch", x, 0, 6, 2, 3);
        due("move undone", x.undo(), 3);
        stands("before the fox's move", x, 1, 7, 2, 3);
        due("setUp undone", x.undo(), 2);
        stands("as new", x, 0, 5, 0, 15);
        due("still blocked", x.now(10), 1 << 10);
        due("block undone", x.undo(), 1);
        due("free", x.now(10), 0);
        due("still set", x.now(13), 1);
        due("set undone", x.undo(), 0);
        due("not set", x.now(13), 0);
    }

    // Promise 21
    private void save() {
        BoardEnds x = new BoardEnds();
        due("save(-1)", x.save(-1), BAD_VALUE);
        due("save(2)", x.save(2), BAD_VALUE);
        due("none blocked", x.save(0), 0);
        x.block(3);
        x.block(12);
        due("two blocked", x.save(1), 2);
        due("save is no change", x.now(15), 2);
        due("overwritten", x.save(0), 2);
        x.block(3);
        due("what is saved stays", x.restore(0), 2);
        due("both are", x.now(10), (1 << 3) + (1 << 12));
    }

    // Promise 22
    private void restore() {
        BoardEnds x = new BoardEnds();
        due("restore(-1)", x.restore(-1), BAD_VALUE);
        due("restore(2)", x.restore(2), BAD_VALUE);
        due("nothing saved", x.restore(1), NOT_POSSIBLE);
        x.set(BoardEnds.HUNT, 1);
        x.block(2);
        x.setUp(1, 8, 9, 15);
        x.save(1);
        due("the other slot is empty", x.restore(0), NOT_POSSIBLE);
        x.set(BoardEnds.HUNT, 0);
        x.set(BoardEnds.FOX, 1);
        x.block(2);
        x.setUp(0, 1, 2, 3);
        x.put('.');
        for (int i = 0; i < 2; i++) {
            due("one blocked", x.restore(1), 1);
            stands("as saved", x, 1, 8, 9, 15);
            due("blocked as saved", x.now(10), 4);
            due("FOX as saved", x.now(11), 0);
            due("HUNT as saved", x.now(12), 1);
            due("the pad stays", x.now(14), 1);
            x.setUp(0, 1, 0, 3);
        }
        due("undone", x.undo(), 5);
        due("restore undone", x.undo(), 4);
        stands("before it was restored", x, 0, 1, 0, 3);
    }

    private long[] all(BoardEnds x) {
        long[] all = new long[27];
        for (int what = 0; what < 16; what++) {
            all[what] = x.now(what);
        }
        for (int what = 0; what < 11; what++) {
            all[16 + what] = x.all(what);
        }
        return all;
    }

    private void errorsChangeNothing() {
        BoardEnds x = new BoardEnds();
        x.block(3);
        x.set(BoardEnds.FOX, 1);
        Texts.put(x, "F.HH/..x");
        long[] before = all(x);
        x.set(3, 1);
        x.set(1, 2);
        x.block(16);
        x.block(0);
        x.setUp(1, 3, 4, 6);
        x.setUp(1, 2, 4, 16);
        x.setUp(2, 2, 4, 6);
        x.move(0, 5);
        x.move(0, 16);
        x.readPad();
        x.put(0);
        x.put(127);
        x.save(2);
        x.restore(0);
        x.restore(5);
        x.now(16);
        x.of(1, 7);
        x.line(61);
        x.all(11);
        x.rule(98);
        x.withDistance(-3);
        long[] after = all(x);
        for (int i = 0; i < before.length; i++) {
            due("behind errors: " + i, after[i], before[i]);
        }
    }

    /** What is worked out for one board is not told of another one. */
    private void tablesFollowTheBoard() {
        BoardEnds x = new BoardEnds();
        due("empty", x.withDistance(1), 79);
        x.block(5 + 1);
        int other = x.distance(0, 5, 0, 15);
        x.undo();
        due("empty again", x.withDistance(1), 79);
        due("its rule", x.rule(57), 6);
        x.set(BoardEnds.HUNT, 1);
        due("hunters across corners", x.all(3), 6);
        due("the distance", x.now(5), 1);
        x.undo();
        due("not any more", x.now(5), 9);
        due("all(3)", x.all(3), 10);
        x.block(6);
        due("blocked again", x.distance(0, 5, 0, 15), other);
        due("symmetries", x.all(2), 2);
    }

    private void severalObjects() {
        BoardEnds x = new BoardEnds();
        BoardEnds y = new BoardEnds();
        x.block(3);
        x.put('.');
        x.save(0);
        due("another board", y.now(10), 0);
        due("another pad", y.now(14), 0);
        due("other slots", y.restore(0), NOT_POSSIBLE);
        due("another history", y.now(15), 0);
        due("its own table", x.all(0) - y.all(0), 2730 - 3360);
    }
}
