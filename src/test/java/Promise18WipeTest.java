/** Promise 18, wipe: an empty pad, a full one, and a pad that begins again. */
final class Promise18WipeTest extends Cases {
    public static void main(String[] args) {
        run(Promise18WipeTest.class);
    }

    void anEmptyPadHad0() {
        due(x.wipe(), 0);
        due(x.now(14), 0);
    }

    void oneCharacter() {
        x.put('.');
        due(x.wipe(), 1);
        due(x.now(14), 0);
    }

    void aFullPadHad24() {
        put("123456789012345678901234");
        due(x.wipe(), 24);
        due(x.now(14), 0);
    }

    void theSecondWipeTells0() {
        put("1234");
        x.wipe();
        due(x.wipe(), 0);
    }

    void nothingOfTheOldTextIsLeft() {
        put("FH../..../H.../....f");
        x.wipe();
        due(x.fault(), 0);
        due(x.readPad(), BAD_TEXT);
        x.put('.');
        due(x.fault(), 1);
    }

    void a24thCharacterFitsAgain() {
        put("123456789012345678901234");
        x.wipe();
        put("12345678901234567890123");
        due(x.put('.'), 24);
        due(x.put('.'), TOO_MANY);
    }

    void itIsNoChange() {
        put("1234");
        x.wipe();
        due(x.now(15), 0);
        due(x.undo(), NOT_POSSIBLE);
        due(x.now(14), 0);
    }

    void onAnEmptyPadItChangesNothing() {
        Steps empty = BoardEnds::wipe;
        for (Steps ground : Told.GROUNDS) {
            for (Told.Way way : Told.WAYS) {
                BoardEnds wiped = new BoardEnds();
                BoardEnds other = new BoardEnds();
                for (BoardEnds one : new BoardEnds[] {wiped, other}) {
                    ground.on(one);
                    empty.on(one);
                }
                due(wiped.wipe(), 0);
                same(way.of(wiped), way.of(other));
            }
        }
    }

    void theRestStays() {
        x.block(9);
        x.set(PASS, 1);
        x.save(0);
        put("1234");
        x.wipe();
        stands(0, 5, 0, 15);
        due(x.now(10), 1 << 9);
        due(x.now(13), 1);
        due(x.now(15), 2);
        due(x.restore(0), 1);
    }
}
