/** Promise 22, restore: two slots and no more, empty ones, and a slot that keeps what it has. */
final class Promise22RestoreTest extends Cases {
    public static void main(String[] args) {
        run(Promise22RestoreTest.class);
    }

    private void saveBoth() {
        x.save(0);
        x.save(1);
    }

    void slotMinus1IsABadValue() {
        saveBoth();
        due(x.restore(-1), BAD_VALUE);
    }

    void slot0IsTheFirst() {
        x.block(9);
        saveBoth();
        due(x.restore(0), 1);
    }

    void slot1IsTheLast() {
        x.block(9);
        saveBoth();
        due(x.restore(1), 1);
    }

    void slot2IsABadValue() {
        saveBoth();
        due(x.restore(2), BAD_VALUE);
    }

    void slotsFarOutAreBadValues() {
        saveBoth();
        for (int slot : new int[] {LEAST, LEAST + 1, -6, 3, 256, 257, MOST}) {
            due(x.restore(slot), BAD_VALUE);
        }
    }

    void anEmptySlot0IsNotPossible() {
        x.save(1);
        due(x.restore(0), NOT_POSSIBLE);
    }

    void anEmptySlot1IsNotPossible() {
        x.save(0);
        due(x.restore(1), NOT_POSSIBLE);
    }

    void badValueComesBeforeAnEmptySlot() {
        due(x.restore(-1), BAD_VALUE);
        due(x.restore(2), BAD_VALUE);
    }

    void noBlockedPlace() {
        x.save(0);
        x.block(9);
        due(x.restore(0), 0);
        due(x.now(10), 0);
    }

    void sixBlockedPlaces() {
        blockSix();
        x.save(0);
        x.block(1);
        due(x.restore(0), 6);
        due(x.now(10), 0b11011110);
    }

    void theSlotKeepsIt() {
        x.block(9);
        x.save(0);
        for (int i = 0; i < 3; i++) {
            x.block(10);
            due(x.restore(0), 1);
            due(x.now(10), 1 << 9);
        }
    }

    void whatWasSavedLastIsRestored() {
        x.save(0);
        x.block(9);
        x.save(0);
        x.block(10);
        x.save(1);
        due(x.restore(0), 1);
        due(x.now(10), 1 << 9);
    }

    void eachSlotHasItsOwn() {
        x.block(9);
        x.save(0);
        x.block(10);
        x.save(1);
        due(x.restore(0), 1);
        due(x.restore(1), 2);
        due(x.restore(0), 1);
    }

    void changesBehindARestoreStayOutOfTheSlot() {
        x.save(0);
        x.restore(0);
        x.block(9);
        x.setUp(1, 6, 2, 3);
        x.restore(0);
        due(x.now(10), 0);
        stands(0, 5, 0, 15);
    }

    void undoStaysOutOfTheSlot() {
        x.block(9);
        x.save(0);
        x.restore(0);
        x.undo();
        x.undo();
        due(x.restore(0), 1);
        due(x.now(10), 1 << 9);
    }

    void itIsAChange() {
        x.save(0);
        x.setUp(1, 6, 2, 3);
        x.restore(0);
        due(x.now(15), 2);
        due(x.undo(), 1);
        stands(1, 6, 2, 3);
    }

    void theSameStateIsAChangeToo() {
        x.save(0);
        x.restore(0);
        due(x.now(15), 1);
    }

    void itIsTheSeventhChange() {
        x.block(9);
        x.save(0);
        for (int i = 0; i < 5; i++) {
            x.block(10);
        }
        due(x.now(15), 6);
        due(x.restore(0), 1);
        due(x.now(15), 6);
        for (int i = 5; i >= 0; i--) {
            due(x.undo(), i);
        }
        due(x.now(10), 1 << 9);
    }

    void theHistoryStays() {
        x.save(0);
        x.block(9);
        x.block(10);
        x.restore(0);
        due(x.undo(), 2);
        due(x.undo(), 1);
        due(x.now(10), 1 << 9);
        due(x.undo(), 0);
        due(x.now(10), 0);
    }

    void thePadStays() {
        x.save(0);
        put("..../x");
        x.restore(0);
        due(x.now(14), 6);
        due(x.fault(), 5);
    }

    void theDistancesFollow() {
        x.save(0);
        x.block(9);
        due(x.all(0), 2 * 15 * 91);
        x.restore(0);
        due(x.all(0), 3360);
        due(x.now(5), 9);
    }

    void noSuchSlotChangesNothing() {
        refused(x -> x.restore(-1), BAD_VALUE);
        refused(x -> x.restore(2), BAD_VALUE);
    }

    void anEmptySlotChangesNothing() {
        BoardEnds refused = new BoardEnds();
        due(refused.restore(0), NOT_POSSIBLE);
        due(refused.restore(1), NOT_POSSIBLE);
        for (Told.Way way : Told.WAYS) {
            refused = new BoardEnds();
            refused.restore(0);
            refused.restore(1);
            same(way.of(refused), way.of(new BoardEnds()));
        }
    }

    void anEmptySlotChangesNothingOfAFullHistory() {
        for (Told.Way way : Told.WAYS) {
            BoardEnds[] both = {new BoardEnds(), new BoardEnds()};
            for (BoardEnds one : both) {
                for (int i = 0; i < 8; i++) {
                    one.setUp(1, 5 + i, 0, 15);
                }
            }
            due(both[0].restore(0), NOT_POSSIBLE);
            due(both[0].restore(1), NOT_POSSIBLE);
            same(way.of(both[0]), way.of(both[1]));
        }
    }
}
