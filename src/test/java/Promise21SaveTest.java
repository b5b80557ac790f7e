/** Promise 21, save: two slots and no more, each overwritten when something more is saved in it. */
final class Promise21SaveTest extends Cases {
    public static void main(String[] args) {
        run(Promise21SaveTest.class);
    }

    void slotMinus1IsABadValue() {
        due(x.save(-1), BAD_VALUE);
    }

    void slot0IsTheFirst() {
        due(x.save(0), 0);
        due(x.restore(0), 0);
    }

    void slot1IsTheLast() {
        due(x.save(1), 0);
        due(x.restore(1), 0);
    }

    void slot2IsABadValue() {
        due(x.save(2), BAD_VALUE);
    }

    void slotsFarOutAreBadValues() {
        for (int slot : new int[] {LEAST, LEAST + 1, -6, 3, 256, 257, MOST}) {
            due(x.save(slot), BAD_VALUE);
        }
    }

    void noBlockedPlace() {
        due(x.save(0), 0);
    }

    void sixBlockedPlaces() {
        blockSix();
        due(x.save(0), 6);
        due(x.save(1), 6);
    }

    void oneSlotDoesNotFillTheOther() {
        x.save(0);
        due(x.restore(1), NOT_POSSIBLE);
        x = new BoardEnds();
        x.save(1);
        due(x.restore(0), NOT_POSSIBLE);
    }

    void whatWasSavedBeforeIsOverwritten() {
        x.block(9);
        x.save(0);
        x.block(9);
        x.block(10);
        x.block(11);
        due(x.save(0), 2);
        x.block(10);
        due(x.restore(0), 2);
        due(x.now(10), 1 << 10 | 1 << 11);
    }

    void overwritingOneSlotLeavesTheOther() {
        x.block(9);
        x.save(0);
        x.save(1);
        x.block(10);
        x.save(0);
        due(x.restore(1), 1);
        due(x.now(10), 1 << 9);
        due(x.restore(0), 2);
    }

    void laterChangesAreNotSaved() {
        x.save(0);
        x.block(9);
        x.set(FOX, 1);
        x.setUp(1, 6, 2, 3);
        x.restore(0);
        stands(0, 5, 0, 15);
        due(x.now(10), 0);
        due(x.now(11), 0);
    }

    void everythingIsSaved() {
        x.setUp(1, 6, 2, 3);
        x.block(9);
        x.set(HUNT, 1);
        x.save(1);
        x.setUp(0, 5, 0, 15);
        x.block(9);
        x.block(10);
        x.set(HUNT, 0);
        x.set(PASS, 1);
        x.restore(1);
        stands(1, 6, 2, 3);
        due(x.now(10), 1 << 9);
        due(x.now(11), 0);
        due(x.now(12), 1);
        due(x.now(13), 0);
    }

    void aCaughtFoxIsSaved() {
        x.setUp(0, 5, 4, 15);
        x.move(4, 5);
        due(x.save(0), 0);
        x.setUp(0, 1, 4, 15);
        x.restore(0);
        stands(1, 5, 5, 15);
        due(x.now(4), 1);
        due(x.now(8), NONE);
    }

    void thePadIsNotSaved() {
        put("1234");
        x.save(0);
        put("56");
        x.restore(0);
        due(x.now(14), 6);
        x.wipe();
        x.restore(0);
        due(x.now(14), 0);
    }

    void theHistoryIsNotSaved() {
        x.block(9);
        x.block(10);
        x.save(0);
        x.undo();
        x.undo();
        x.restore(0);
        due(x.now(15), 1);
        due(x.undo(), 0);
        due(x.now(10), 0);
    }

    void theOtherSlotIsNotSaved() {
        x.block(9);
        x.save(0);
        x.save(1);
        x.block(10);
        x.save(0);
        x.restore(1);
        due(x.restore(0), 2);
    }

    void itIsNoChange() {
        x.save(0);
        x.save(1);
        due(x.now(15), 0);
        due(x.undo(), NOT_POSSIBLE);
    }

    void noSuchSlotChangesNothing() {
        refused(x -> x.save(-1), BAD_VALUE);
        refused(x -> x.save(2), BAD_VALUE);
    }
}
