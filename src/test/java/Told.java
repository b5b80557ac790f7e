/** Everything that the calls of a board tell, as texts to compare. */
final class Told {
    private Told() {
    }

    interface Way {
        String of(BoardEnds x);
    }

    /** What only looks, and can be asked twice of the same object. */
    static final Way[] LOOKS = {Told::counts, Told::positions};

    /** All ways; those that look at the history, the slots and the pad use them up. */
    static final Way[] WAYS = {Told::counts, Told::positions, Told::history, Told::slots, Told::pad};

    /** Boards with short and with full histories, empty and full slots, on which a call is tried. */
    static final Cases.Steps[] GROUNDS = {Told::little, Told::much};

    private static void little(BoardEnds x) {
        x.set(BoardEnds.PASS, 1);
        x.setUp(1, 6, 1, 12);
        x.put(Texts.number("F..H/x"));
    }

    private static void much(BoardEnds x) {
        x.set(BoardEnds.HUNT, 1);
        x.block(10);
        x.save(0);
        x.set(BoardEnds.FOX, 1);
        x.setUp(0, 5, 3, 12);
        x.block(9);
        x.save(1);
        x.block(10);
        x.set(BoardEnds.HUNT, 0);
        x.play();
        x.block(9);
        x.play();
        Texts.put(x, ".F../H../..H./....f");
    }

    private static void now(BoardEnds x, StringBuilder told) {
        for (int what = 0; what < 16; what++) {
            told.append(x.now(what)).append(' ');
        }
    }

    static String counts(BoardEnds x) {
        StringBuilder told = new StringBuilder("now ");
        now(x, told);
        told.append("fault ").append(x.fault()).append(" all ");
        for (int what = 0; what < 11; what++) {
            told.append(x.all(what)).append(' ');
        }
        told.append("withDistance ");
        for (int distance = 0; distance < 30; distance++) {
            told.append(x.withDistance(distance)).append(' ');
        }
        told.append(x.withDistance(BoardEnds.NONE)).append(" rule ");
        for (int key = 0; key < 98; key++) {
            told.append(x.rule(key)).append(' ');
        }
        return told.toString();
    }

    static String positions(BoardEnds x) {
        StringBuilder told = new StringBuilder("line ");
        for (int moves = 1; moves <= 60; moves++) {
            told.append(x.line(moves)).append(' ');
        }
        told.append("of ");
        for (int number = 15; number < 4096; number += 340) {
            for (int what = 0; what < 7; what++) {
                told.append(x.of(number, what)).append(' ');
            }
        }
        told.append("distance number folded ");
        for (int fox = 0; fox < 8; fox++) {
            told.append(x.distance(fox & 1, fox, fox + 3, 13)).append(' ');
            told.append(x.number(fox & 1, fox, fox + 3, 13)).append(' ');
            told.append(x.folded(fox & 1, fox, fox + 3, 13)).append(' ');
        }
        return told.toString();
    }

    /** What stands there after each undo. */
    static String history(BoardEnds x) {
        StringBuilder told = new StringBuilder();
        int left = 0;
        for (int i = 0; i < 8; i++) {
            left = x.undo();
            told.append("undo ").append(left).append(": ");
            now(x, told);
        }
        return told.toString();
    }

    /** What stands in the slots. */
    static String slots(BoardEnds x) {
        StringBuilder told = new StringBuilder();
        for (int slot = 0; slot < 2; slot++) {
            told.append("restore ").append(x.restore(slot)).append(": ");
            now(x, told);
        }
        return told.toString();
    }

    /** What stands on the pad: each sign of it, as far as calls can tell them. */
    static String pad(BoardEnds x) {
        StringBuilder told = new StringBuilder("fault ").append(x.fault());
        told.append(" readPad ").append(x.readPad()).append(": ");
        now(x, told);
        told.append("put ").append(x.put('h')).append(" fault ").append(x.fault());
        told.append(" readPad ").append(x.readPad()).append(": ");
        now(x, told);
        told.append("wipe ").append(x.wipe());
        return told.toString();
    }
}
