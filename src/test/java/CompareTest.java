/** Long runs of calls, chosen by a fixed row of numbers, each answer compared with the model's. */
final class CompareTest {
    private static final String GOOD = ".#FH/hf";

    private final Checks checks;
    private BoardEnds program;
    private Model model;
    private long seed;
    private String latest = "";

    private CompareTest(Checks checks) {
        this.checks = checks;
    }

    public static void main(String[] args) {
        Checks checks = new Checks();
        CompareTest test = new CompareTest(checks);
        // An object is promised for 512 calls: either many calls, or few with a look at everything behind each.
        for (int run = 0; run < 60; run++) {
            test.start(run);
            for (int i = 0; i < 512; i++) {
                test.call(test.next(22));
            }
        }
        for (int run = 0; run < 160; run++) {
            test.start(1000 + run);
            for (int i = 0; i < 25; i++) {
                test.call(test.next(22));
                test.lookAtNow();
            }
            test.lookAtAll();
        }
        for (int run = 0; run < 60; run++) {
            test.start(5000 + run);
            test.playToTheEnd();
        }
        checks.end("CompareTest");
    }

    private void start(int run) {
        program = new BoardEnds();
        model = new Model();
        seed = run * 7919L + 17;
        latest = "new in run " + run;
    }

    private int next(int bound) {
        seed = seed * 6364136223846793005L + 1442695040888963407L;
        return (int) ((seed >>> 33) % bound);
    }

    private boolean rarely() {
        return next(12) == 0;
    }

    /** Mostly a number from 0 to the bound, sometimes one beside it. */
    private int about(int bound) {
        if (rarely()) {
            int[] odd = {-1, bound, bound + 1, -6, Integer.MAX_VALUE, Integer.MIN_VALUE, 1 << 16, -16, 256};
            return odd[next(odd.length)];
        }
        return next(bound);
    }

    private void same(String call, long got, long want) {
        checks.due(call + " behind " + latest, got, want);
    }

    private void lookAtNow() {
        for (int what = 0; what < 16; what++) {
            same("now(" + what + ")", program.now(what), model.now(what));
        }
    }

    private void lookAtAll() {
        for (int what = 0; what < 11; what++) {
            same("all(" + what + ")", program.all(what), model.all(what));
        }
        for (int key = 0; key < 98; key += 1 + next(3)) {
            same("rule(" + key + ")", program.rule(key), model.rule(key));
        }
    }

    private void playToTheEnd() {
        for (int i = 0; i < 4; i++) {
            call(0);
        }
        for (int i = 0; i < 5; i++) {
            call(1);
        }
        call(2);
        for (int i = 0; i < 30; i++) {
            for (int what = 4; what <= 8; what++) {
                same("now(" + what + ")", program.now(what), model.now(what));
            }
            int moves = 1 + next(20);
            same("line(" + moves + ")", program.line(moves), model.line(moves));
            call(4);
        }
    }

    private void call(int which) {
        switch (which) {
            case 0, 1, 2, 3, 4, 5 -> change(which);
            case 6 -> {
                int what = about(16);
                same("now(" + what + ")", program.now(what), model.now(what));
            }
            case 7, 8, 9, 10, 11, 12, 13, 14 -> look(which);
            case 15, 16, 17 -> text(which);
            default -> keep(which);
        }
    }

    private void change(int which) {
        int a = about(16);
        int b = about(16);
        if (which == 0) {
            a = about(3);
            b = about(2);
            latest = "set(" + a + ", " + b + ")";
            same(latest, program.set(a, b), model.set(a, b));
        } else if (which == 1) {
            latest = "block(" + a + ")";
            same(latest, program.block(a), model.block(a));
        } else if (which == 2) {
            int who = about(2);
            int fox = about(16);
            latest = "setUp(" + who + ", " + fox + ", " + a + ", " + b + ")";
            same(latest, program.setUp(who, fox, a, b), model.setUp(who, fox, a, b));
        } else if (which == 3) {
            if (!rarely()) {
                a = model.scene.who == 1 ? model.scene.fox : next(2) == 0 ? model.scene.low : model.scene.high;
                int[] near = {a - 4, a - 1, a + 1, a + 4, a, a - 5, a + 5, a + 3, a - 3, model.scene.fox};
                b = near[next(near.length)];
            }
            latest = "move(" + a + ", " + b + ")";
            same(latest, program.move(a, b), model.move(a, b));
        } else if (which == 4) {
            latest = "play()";
            same(latest, program.play(), model.play());
        } else {
            write();
            latest = "readPad() of " + model.pad;
            same(latest, program.readPad(), model.readPad());
        }
    }

    private void look(int which) {
        int a = about(16);
        int b = about(16);
        int who = about(2);
        int fox = about(16);
        if (which == 7) {
            same("distance", program.distance(who, fox, a, b), model.distance(who, fox, a, b));
        } else if (which == 8) {
            same("number", program.number(who, fox, a, b), model.number(who, fox, a, b));
        } else if (which == 9) {
            same("folded", program.folded(who, fox, a, b), model.folded(who, fox, a, b));
        } else if (which == 10) {
            int number = about(4096);
            int what = about(7);
            same("of(" + number + ", " + what + ")", program.of(number, what), model.of(number, what));
        } else if (which == 11) {
            int moves = next(2) == 0 ? 1 + next(6) : about(62);
            same("line(" + moves + ")", program.line(moves), model.line(moves));
        } else if (which == 12) {
            int what = about(11);
            same("all(" + what + ")", program.all(what), model.all(what));
        } else if (which == 13) {
            int distance = next(4) == 0 ? -6 : about(202);
            distance = next(2) == 0 ? distance : next(30);
            same("withDistance(" + distance + ")", program.withDistance(distance), model.withDistance(distance));
        } else {
            int key = about(98);
            same("rule(" + key + ")", program.rule(key), model.rule(key));
        }
    }

    private void text(int which) {
        if (which == 15) {
            long characters = codes(1 + next(8));
            latest = "put(" + characters + ")";
            same(latest, program.put(characters), model.put(characters));
        } else if (which == 16) {
            latest = "wipe()";
            same(latest, program.wipe(), model.wipe());
        } else {
            same("fault()", program.fault(), model.fault());
        }
    }

    private void keep(int which) {
        int slot = about(2);
        if (which == 18 || which == 21) {
            latest = "undo()";
            same(latest, program.undo(), model.undo());
        } else if (which == 19) {
            latest = "save(" + slot + ")";
            same(latest, program.save(slot), model.save(slot));
        } else {
            latest = "restore(" + slot + ")";
            same(latest, program.restore(slot), model.restore(slot));
        }
    }

    private long codes(int count) {
        long characters = 0;
        for (int i = 0; i < count; i++) {
            int code = GOOD.charAt(next(GOOD.length()));
            if (next(30) == 0) {
                int[] odd = {0, 32, 33, 126, 127, 128, 255, 'x', 10};
                code = odd[next(odd.length)];
            }
            characters = characters << 8 | code;
        }
        return characters;
    }

    /** Writes a text that is mostly good on the pad. */
    private void write() {
        same("wipe()", program.wipe(), model.wipe());
        char[] places = "................".toCharArray();
        int blocked = next(9);
        for (int i = 0; i < blocked; i++) {
            places[next(16)] = '#';
        }
        int hunters = rarely() ? next(4) : 2;
        for (int i = 0; i < hunters; i++) {
            places[free(places)] = 'H';
        }
        int foxes = rarely() ? next(3) : 1;
        for (int i = 0; i < foxes; i++) {
            places[free(places)] = 'F';
        }
        String all = new String(places);
        String text = all.substring(0, 4) + "/" + all.substring(4, 8) + "/" + all.substring(8, 12) + "/"
                + all.substring(12) + (next(2) == 0 ? "h" : "f");
        if (rarely()) {
            int at = next(20);
            text = text.substring(0, at) + (char) (33 + next(94)) + text.substring(at + 1);
        }
        if (rarely()) {
            text = text.substring(0, next(20));
        } else if (rarely()) {
            text = text + "...h".substring(next(4));
        }
        for (int from = 0; from < text.length();) {
            int to = Math.min(text.length(), from + 1 + next(8));
            long characters = Texts.number(text.substring(from, to));
            same("put(" + characters + ")", program.put(characters), model.put(characters));
            from = to;
        }
        same("fault()", program.fault(), model.fault());
    }

    private int free(char[] places) {
        int place = next(16);
        while (places[place] != '.') {
            place = (place + 1) % 16;
        }
        return place;
    }
}
