/** Promise 20, undo: an empty history, six states and no more, the oldest dropped, and what undo leaves alone. */
final class Promise20UndoTest extends Cases {
    public static void main(String[] args) {
        run(Promise20UndoTest.class);
    }

    /** Sets the fox at the places 1, 2, 3 .., one change each, with the hunters at 14 and 15. */
    private void foxAt(int... places) {
        for (int place : places) {
            x.setUp(0, place, 14, 15);
        }
    }

    private void undoes(int left, int fox) {
        due(x.undo(), left);
        due(x.now(15), left);
        due(x.now(1), fox);
    }

    void anEmptyHistory() {
        due(x.undo(), NOT_POSSIBLE);
        due(x.now(15), 0);
    }

    void oneState() {
        foxAt(1);
        undoes(0, 5);
        stands(0, 5, 0, 15);
        due(x.undo(), NOT_POSSIBLE);
    }

    void fiveStates() {
        foxAt(1, 2, 3, 4, 5);
        due(x.now(15), 5);
        undoes(4, 4);
    }

    void sixStatesAreKept() {
        foxAt(1, 2, 3, 4, 5, 6);
        due(x.now(15), 6);
        undoes(5, 5);
        undoes(4, 4);
        undoes(3, 3);
        undoes(2, 2);
        undoes(1, 1);
        undoes(0, 5);
        due(x.undo(), NOT_POSSIBLE);
        due(x.now(2), 0);
    }

    void theSeventhDropsTheOldest() {
        foxAt(1, 2, 3, 4, 5, 6, 7);
        due(x.now(15), 6);
        undoes(5, 6);
        undoes(4, 5);
        undoes(3, 4);
        undoes(2, 3);
        undoes(1, 2);
        undoes(0, 1);
        due(x.undo(), NOT_POSSIBLE);
        stands(0, 1, 14, 15);
    }

    void manyMoreDropTheOldestEachTime() {
        for (int i = 0; i < 20; i++) {
            foxAt(1 + i % 13);
        }
        due(x.now(15), 6);
        for (int i = 18; i > 12; i--) {
            undoes(i - 13, 1 + i % 13);
        }
        due(x.undo(), NOT_POSSIBLE);
    }

    void afterAnUndoTheSixthPlaceIsFreeAgain() {
        foxAt(1, 2, 3, 4, 5, 6);
        undoes(5, 5);
        foxAt(9);
        due(x.now(15), 6);
        undoes(5, 5);
        undoes(4, 4);
        undoes(3, 3);
        undoes(2, 2);
        undoes(1, 1);
        undoes(0, 5);
    }

    void afterADropAndAnUndoOneMoreDropsNothing() {
        foxAt(1, 2, 3, 4, 5, 6, 7);
        undoes(5, 6);
        foxAt(8);
        undoes(5, 6);
        undoes(4, 5);
        undoes(3, 4);
        undoes(2, 3);
        undoes(1, 2);
        undoes(0, 1);
    }

    void whatWasUndoneDoesNotComeBack() {
        foxAt(1, 2);
        undoes(1, 1);
        foxAt(9);
        undoes(1, 1);
        undoes(0, 5);
    }

    void anEmptiedHistoryBeginsAgain() {
        foxAt(1);
        undoes(0, 5);
        foxAt(2);
        due(x.now(15), 1);
        undoes(0, 5);
    }

    void undoIsNoChange() {
        foxAt(1, 2, 3);
        undoes(2, 2);
        undoes(1, 1);
    }

    void aChangeThatMakesNoDifferenceIsRecorded() {
        x.set(FOX, 0);
        due(x.now(15), 1);
        x.setUp(0, 5, 0, 15);
        due(x.now(15), 2);
        x.save(0);
        x.restore(0);
        due(x.now(15), 3);
        due(read("H.../.F../..../...Hh"), 9);
        due(x.now(15), 4);
    }

    void changesThatMakeNoDifferenceDropTheOldestToo() {
        foxAt(1);
        for (int i = 0; i < 6; i++) {
            x.set(FOX, 0);
        }
        for (int i = 5; i >= 0; i--) {
            undoes(i, 1);
        }
        due(x.undo(), NOT_POSSIBLE);
    }

    void eachMethodThatIsAChangeRecordsOne() {
        x.set(PASS, 1);
        due(x.now(15), 1);
        x.block(10);
        due(x.now(15), 2);
        x.setUp(0, 5, 0, 15);
        due(x.now(15), 3);
        x.move(0, 1);
        due(x.now(15), 4);
        x.play();
        due(x.now(15), 5);
        x.save(0);
        x.restore(0);
        due(x.now(15), 6);
    }

    void readPadRecordsOne() {
        read("FH../..../H.../....f");
        due(x.now(15), 1);
        undoes(0, 5);
    }

    void noOtherMethodRecordsOne() {
        foxAt(1);
        x.now(5);
        x.distance(0, 5, 0, 15);
        x.number(0, 5, 0, 15);
        x.folded(0, 5, 0, 15);
        x.of(15, 6);
        x.line(3);
        x.all(6);
        x.withDistance(1);
        x.rule(8);
        x.put('.');
        x.fault();
        x.wipe();
        x.save(1);
        due(x.now(15), 1);
        undoes(0, 5);
    }

    void aRefusedChangeRecordsNone() {
        foxAt(1);
        x.set(3, 0);
        x.block(16);
        x.block(1);
        x.setUp(2, 1, 2, 3);
        x.move(0, 0);
        x.readPad();
        x.restore(0);
        x.restore(2);
        x.setUp(1, 0, 1, 4);
        x.play();
        x.move(0, 1);
        due(x.now(15), 2);
        undoes(1, 1);
        undoes(0, 5);
    }

    void aRefusedChangeDropsNothingOfAFullHistory() {
        foxAt(1, 2, 3, 4, 5, 6);
        x.set(3, 0);
        x.block(6);
        x.setUp(2, 1, 2, 3);
        x.move(0, 0);
        x.readPad();
        x.restore(0);
        due(x.now(15), 6);
        for (int i = 5; i > 0; i--) {
            undoes(i, i);
        }
        undoes(0, 5);
    }

    void theSettingsComeBack() {
        for (int setting = 0; setting < 3; setting++) {
            x.set(setting, 1);
            due(x.undo(), 0);
            due(x.now(11 + setting), 0);
        }
    }

    void theBlockedPlacesComeBack() {
        x.block(3);
        x.block(12);
        x.block(3);
        due(x.undo(), 2);
        due(x.now(10), 1 << 3 | 1 << 12);
        due(x.undo(), 1);
        due(x.now(10), 1 << 3);
        due(x.undo(), 0);
        due(x.now(10), 0);
    }

    void theSideThatMovesAndAllPlacesComeBack() {
        x.setUp(1, 9, 2, 3);
        x.setUp(0, 8, 6, 7);
        due(x.undo(), 1);
        stands(1, 9, 2, 3);
        due(x.undo(), 0);
        stands(0, 5, 0, 15);
    }

    void aCaughtFoxComesBack() {
        x.setUp(0, 5, 4, 15);
        x.move(4, 5);
        x.setUp(0, 1, 4, 15);
        due(x.now(4), 0);
        due(x.undo(), 2);
        due(x.now(4), 1);
        due(x.now(8), NONE);
        stands(1, 5, 5, 15);
        due(x.undo(), 1);
        due(x.now(4), 0);
        stands(0, 5, 4, 15);
    }

    void theDistancesFollow() {
        x.block(9);
        int positions = x.all(0);
        x.undo();
        due(positions, 2 * 15 * 91);
        due(x.all(0), 3360);
        due(x.now(5), 9);
    }

    void thePadStays() {
        x.block(9);
        put("..../x");
        due(x.undo(), 0);
        due(x.now(14), 6);
        due(x.fault(), 5);
    }

    void thePadThatReadPadEmptiedStaysEmpty() {
        read("FH../..../H.../....f");
        due(x.undo(), 0);
        due(x.now(14), 0);
        due(x.fault(), 0);
    }

    void theSlotsStay() {
        x.block(9);
        x.save(0);
        x.block(10);
        x.save(1);
        x.undo();
        x.undo();
        due(x.now(10), 0);
        due(x.restore(0), 1);
        due(x.now(10), 1 << 9);
        due(x.restore(1), 2);
        due(x.now(10), 1 << 9 | 1 << 10);
    }

    void anEmptyHistoryChangesNothing() {
        Steps emptied = x -> {
            for (int i = 0; i < 6; i++) {
                x.undo();
            }
        };
        refused(emptied, BoardEnds::undo, NOT_POSSIBLE);
    }
}
