/** Promise 1, a new object: what is empty, and where everybody is. */
final class Promise01NewTest extends Cases {
    public static void main(String[] args) {
        run(Promise01NewTest.class);
    }

    void noPlaceIsBlocked() {
        due(x.now(10), 0);
    }

    void allSixteenPlacesAreFree() {
        due(x.all(0), 2 * 16 * (15 * 14 / 2));
    }

    void theFoxIsAt5() {
        due(x.now(1), 5);
    }

    void theLowerHunterIsAt0() {
        due(x.now(2), 0);
    }

    void theHigherHunterIsAt15() {
        due(x.now(3), 15);
    }

    void theHuntersMove() {
        due(x.now(0), 0);
    }

    void theFoxIsNotCaught() {
        due(x.now(4), 0);
    }

    void firstValueOfFoxIs0() {
        due(x.now(11), 0);
        due(x.set(FOX, 0), 0);
    }

    void firstValueOfHuntIs0() {
        due(x.now(12), 0);
        due(x.set(HUNT, 0), 0);
    }

    void firstValueOfPassIs0() {
        due(x.now(13), 0);
        due(x.set(PASS, 0), 0);
    }

    void thePadIsEmpty() {
        due(x.now(14), 0);
        due(x.fault(), 0);
        due(x.wipe(), 0);
    }

    void theEmptyPadCannotBeRead() {
        due(x.readPad(), BAD_TEXT);
    }

    void theHistoryIsEmpty() {
        due(x.now(15), 0);
        due(x.undo(), NOT_POSSIBLE);
    }

    void slot0IsEmpty() {
        due(x.restore(0), NOT_POSSIBLE);
    }

    void slot1IsEmpty() {
        due(x.restore(1), NOT_POSSIBLE);
    }

    void anObjectMadeLaterIsNewToo() {
        x.set(FOX, 1);
        x.block(1);
        x.setUp(1, 2, 3, 4);
        x.put('.');
        x.save(0);
        x.save(1);
        BoardEnds later = new BoardEnds();
        same(Told.counts(later), Told.counts(new BoardEnds()));
        due(later.now(1), 5);
        due(later.now(10) + later.now(11) + later.now(14) + later.now(15), 0);
        due(later.restore(0), NOT_POSSIBLE);
        due(later.restore(1), NOT_POSSIBLE);
    }

    void anObjectMadeEarlierStaysAsItWas() {
        x.block(1);
        x.put('.');
        new BoardEnds().block(2);
        new BoardEnds().wipe();
        due(x.now(10), 2);
        due(x.now(14), 1);
        due(x.all(0), 2 * 15 * (14 * 13 / 2));
    }
}
