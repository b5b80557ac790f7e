/** Promise 5, move: the ends of the board, which steps there are, who is caught, and the order of the errors. */
final class Promise05MoveTest extends Cases {
    public static void main(String[] args) {
        run(Promise05MoveTest.class);
    }

    /** The places to which the fox can go from a place, as a set, with the hunters far from it. */
    private int stepsOfFox(int from, int one, int other) {
        int steps = 0;
        for (int to = 0; to < 16; to++) {
            x.setUp(1, from, one, other);
            int answer = x.move(from, to);
            due(answer == 0 || answer == NOT_POSSIBLE ? 1 : 0, 1);
            steps |= answer == 0 ? 1 << to : 0;
        }
        return steps;
    }

    /** The places to which the first hunter can go, as a set. */
    private int stepsOfHunter(int from, int fox, int other) {
        int steps = 0;
        for (int to = 0; to < 16; to++) {
            x.setUp(0, fox, from, other);
            int answer = x.move(from, to);
            due(answer >= 0 || answer == NOT_POSSIBLE ? 1 : 0, 1);
            steps |= answer >= 0 ? 1 << to : 0;
        }
        return steps;
    }

    private static int set(int... places) {
        int set = 0;
        for (int place : places) {
            set |= 1 << place;
        }
        return set;
    }

    void fromMinus1IsNoPlace() {
        due(x.move(-1, 1), NO_SUCH);
    }

    void from0IsTheFirstPlace() {
        due(x.move(0, 1), 0);
        stands(1, 5, 1, 15);
    }

    void from15IsTheLastPlace() {
        due(x.move(15, 14), 0);
        stands(1, 5, 0, 14);
    }

    void from16IsNoPlace() {
        due(x.move(16, 15), NO_SUCH);
    }

    void toMinus1IsNoPlace() {
        due(x.move(0, -1), NO_SUCH);
    }

    void to0IsTheFirstPlace() {
        x.setUp(1, 1, 7, 15);
        due(x.move(1, 0), 0);
        stands(0, 0, 7, 15);
    }

    void to15IsTheLastPlace() {
        x.setUp(1, 14, 0, 7);
        due(x.move(14, 15), 0);
        stands(0, 15, 0, 7);
    }

    void to16IsNoPlace() {
        due(x.move(15, 16), NO_SUCH);
        x.setUp(1, 12, 0, 1);
        due(x.move(12, 16), NO_SUCH);
    }

    void placesFarOutAreNoPlaces() {
        for (int place : new int[] {LEAST, LEAST + 1, -16, -32, 17, 32, 33, MOST}) {
            due(x.move(place, 1), NO_SUCH);
            due(x.move(0, place), NO_SUCH);
            due(x.move(place, place), NO_SUCH);
        }
    }

    void noSuchPlaceComesBeforeNotPossible() {
        due(x.move(1, 16), NO_SUCH);
        due(x.move(5, -1), NO_SUCH);
        due(x.move(16, 0), NO_SUCH);
        due(x.move(-1, 5), NO_SUCH);
    }

    void noSuchPlaceComesBeforeTheFoxThatIsCaught() {
        x.setUp(1, 0, 1, 4);
        due(x.move(0, 16), NO_SUCH);
        due(x.move(-1, 0), NO_SUCH);
    }

    void fromAPlaceWhereNobodyIs() {
        due(x.move(1, 2), NOT_POSSIBLE);
        due(x.move(14, 13), NOT_POSSIBLE);
    }

    void theFoxWhenTheHuntersMove() {
        due(x.move(5, 6), NOT_POSSIBLE);
    }

    void aHunterWhenTheFoxMoves() {
        x.setUp(1, 5, 0, 15);
        due(x.move(0, 1), NOT_POSSIBLE);
        due(x.move(15, 14), NOT_POSSIBLE);
    }

    void theOtherSideMovesThen() {
        due(x.move(0, 1), 0);
        due(x.now(0), 1);
        due(x.move(5, 9), 0);
        due(x.now(0), 0);
    }

    void stepsOfAHunterInTheMiddle() {
        due(stepsOfHunter(5, 15, 12), set(1, 4, 6, 9));
    }

    void stepsOfAHunterInTheCorners() {
        due(stepsOfHunter(0, 10, 9), set(1, 4));
        due(stepsOfHunter(3, 10, 9), set(2, 7));
        due(stepsOfHunter(12, 10, 5), set(8, 13));
        due(stepsOfHunter(15, 9, 5), set(11, 14));
    }

    void stepsOfAHunterDoNotGoRoundTheRightEdge() {
        due(stepsOfHunter(7, 0, 1), set(3, 6, 11));
        due(stepsOfHunter(11, 0, 1), set(7, 10, 15));
    }

    void stepsOfAHunterDoNotGoRoundTheLeftEdge() {
        due(stepsOfHunter(4, 15, 14), set(0, 5, 8));
        due(stepsOfHunter(8, 15, 14), set(4, 9, 12));
    }

    void stepsOfTheFoxInTheMiddle() {
        due(stepsOfFox(10, 0, 3), set(6, 9, 11, 14));
    }

    void stepsOfTheFoxInTheCorners() {
        due(stepsOfFox(0, 10, 9), set(1, 4));
        due(stepsOfFox(3, 10, 9), set(2, 7));
        due(stepsOfFox(12, 10, 5), set(8, 13));
        due(stepsOfFox(15, 9, 5), set(11, 14));
    }

    void stepsOfTheFoxDoNotGoRoundTheRightEdge() {
        due(stepsOfFox(3, 0, 12), set(2, 7));
        due(stepsOfFox(7, 0, 12), set(3, 6, 11));
    }

    void stepsOfTheFoxDoNotGoRoundTheLeftEdge() {
        due(stepsOfFox(4, 3, 15), set(0, 5, 8));
        due(stepsOfFox(12, 3, 15), set(8, 13));
    }

    void theFoxAcrossCornersIfFoxIs1() {
        x.set(FOX, 1);
        due(stepsOfFox(5, 11, 15), set(0, 1, 2, 4, 6, 8, 9, 10));
    }

    void theFoxNotAcrossCornersIfFoxIs0() {
        x.set(HUNT, 1);
        due(stepsOfFox(5, 11, 15), set(1, 4, 6, 9));
    }

    void acrossCornersTheFoxDoesNotGoRoundTheEdges() {
        x.set(FOX, 1);
        due(stepsOfFox(4, 14, 15), set(0, 1, 5, 8, 9));
        due(stepsOfFox(8, 14, 15), set(4, 5, 9, 12, 13));
        due(stepsOfFox(7, 12, 13), set(2, 3, 6, 10, 11));
        due(stepsOfFox(3, 12, 13), set(2, 6, 7));
        due(stepsOfFox(12, 3, 7), set(8, 9, 13));
    }

    void theHuntersAcrossCornersIfHuntIs1() {
        x.set(HUNT, 1);
        due(stepsOfHunter(5, 15, 11), set(0, 1, 2, 4, 6, 8, 9, 10));
    }

    void theHuntersNotAcrossCornersIfHuntIs0() {
        x.set(FOX, 1);
        due(stepsOfHunter(5, 15, 11), set(1, 4, 6, 9));
    }

    void acrossCornersTheHuntersDoNotGoRoundTheEdges() {
        x.set(HUNT, 1);
        due(stepsOfHunter(8, 14, 15), set(4, 5, 9, 12, 13));
        due(stepsOfHunter(7, 12, 13), set(2, 3, 6, 10, 11));
        due(stepsOfHunter(0, 14, 15), set(1, 4, 5));
        due(stepsOfHunter(15, 0, 1), set(10, 11, 14));
    }

    void aHunterNotToABlockedPlace() {
        x.block(9);
        x.block(1);
        due(stepsOfHunter(5, 15, 12), set(4, 6));
    }

    void theFoxNotToABlockedPlace() {
        x.block(9);
        x.block(1);
        due(stepsOfFox(5, 15, 12), set(4, 6));
    }

    void aBlockedPlaceDoesNotHinderAStepAcrossItsCorner() {
        x.set(FOX, 1);
        x.block(1);
        x.block(4);
        due(stepsOfFox(0, 14, 15), set(5));
    }

    void aHunterNotToTheOther() {
        due(stepsOfHunter(5, 15, 6), set(1, 4, 9));
        due(stepsOfHunter(5, 15, 4), set(1, 6, 9));
    }

    void theFoxNotToAHunter() {
        due(stepsOfFox(5, 6, 4), set(1, 9));
    }

    void aHunterStaysNotIfPassIs0() {
        due(x.move(0, 0), NOT_POSSIBLE);
        due(x.move(15, 15), NOT_POSSIBLE);
    }

    void theLowerHunterStaysIfPassIs1() {
        x.set(PASS, 1);
        due(x.move(0, 0), 0);
        stands(1, 5, 0, 15);
    }

    void theHigherHunterStaysIfPassIs1() {
        x.set(PASS, 1);
        due(x.move(15, 15), 0);
        stands(1, 5, 0, 15);
    }

    void nobodyStaysAtAPlaceWithoutAHunter() {
        x.set(PASS, 1);
        due(x.move(1, 1), NOT_POSSIBLE);
        due(x.move(5, 5), NOT_POSSIBLE);
        due(x.move(14, 14), NOT_POSSIBLE);
    }

    void theFoxNeverStays() {
        x.set(PASS, 1);
        x.setUp(1, 5, 0, 15);
        due(x.move(5, 5), NOT_POSSIBLE);
    }

    void theHuntersDoNotStayWhenTheFoxMoves() {
        x.set(PASS, 1);
        x.setUp(1, 5, 0, 15);
        due(x.move(0, 0), NOT_POSSIBLE);
        due(x.move(15, 15), NOT_POSSIBLE);
    }

    void aStepToTheFoxCatchesIt() {
        x.setUp(0, 5, 4, 6);
        due(x.move(6, 5), 1);
        stands(1, 5, 4, 5);
        due(x.now(4), 1);
    }

    void aStepAcrossACornerToTheFoxCatchesItIfHuntIs1() {
        x.set(HUNT, 1);
        due(x.move(0, 5), 1);
        due(x.now(4), 1);
    }

    void aStepThatLeavesTheFoxNoMoveCatchesIt() {
        x.setUp(0, 0, 1, 8);
        due(x.move(8, 4), 1);
        stands(1, 0, 1, 4);
        due(x.now(4), 1);
    }

    void aStepThatLeavesTheFoxOneMoveDoesNot() {
        x.setUp(0, 0, 2, 8);
        due(x.move(8, 4), 0);
        due(x.now(4), 0);
    }

    void toStayCatchesAFoxWithoutAMove() {
        x.set(PASS, 1);
        x.setUp(0, 0, 1, 4);
        due(x.move(1, 1), 1);
        stands(1, 0, 1, 4);
    }

    void aMoveOfTheFoxIsNeverACatch() {
        x.setUp(1, 1, 2, 4);
        due(x.move(1, 0), 0);
        due(x.now(4), 0);
    }

    void nobodyMovesWhenAHunterCaughtTheFox() {
        x.setUp(0, 5, 4, 15);
        x.move(4, 5);
        due(x.move(5, 6), NOT_POSSIBLE);
        due(x.move(15, 14), NOT_POSSIBLE);
        x.set(PASS, 1);
        due(x.move(15, 15), NOT_POSSIBLE);
        due(x.move(5, 5), NOT_POSSIBLE);
    }

    void nobodyMovesWhenTheFoxHasNoMove() {
        x.setUp(1, 0, 1, 4);
        due(x.move(0, 1), NOT_POSSIBLE);
        due(x.move(0, 5), NOT_POSSIBLE);
        due(x.move(1, 2), NOT_POSSIBLE);
    }

    void aFoxBetweenHuntersWhoMoveIsNotCaughtYet() {
        x.setUp(0, 0, 1, 4);
        due(x.now(4), 0);
        due(x.move(1, 2), 0);
    }

    void itIsAChange() {
        x.move(0, 1);
        due(x.now(15), 1);
        due(x.undo(), 0);
        stands(0, 5, 0, 15);
    }

    void toStayIsAChangeToo() {
        x.set(PASS, 1);
        x.move(0, 0);
        due(x.now(15), 2);
        due(x.undo(), 1);
        due(x.now(0), 0);
    }

    void noSuchPlaceChangesNothing() {
        refused(x -> x.move(-1, 1), NO_SUCH);
        refused(x -> x.move(16, 1), NO_SUCH);
        refused(x -> x.move(x.now(1), -1), NO_SUCH);
        refused(x -> x.move(x.now(2), 16), NO_SUCH);
    }

    void noMoveChangesNothing() {
        refused(x -> x.setUp(0, 5, 0, 15), x -> x.move(5, 6), NOT_POSSIBLE);
        refused(x -> x.setUp(0, 5, 0, 15), x -> x.move(0, 2), NOT_POSSIBLE);
        refused(x -> x.setUp(1, 5, 4, 15), x -> x.move(5, 4), NOT_POSSIBLE);
        refused(x -> x.setUp(1, 5, 4, 15), x -> x.move(5, 5), NOT_POSSIBLE);
    }

    void aFoxThatIsCaughtChangesNothing() {
        Steps caught = x -> {
            x.setUp(0, 5, 4, 15);
            x.move(4, 5);
        };
        refused(caught, x -> x.move(5, 6), NOT_POSSIBLE);
        refused(caught, x -> x.move(15, 14), NOT_POSSIBLE);
    }
}
