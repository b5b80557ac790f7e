/** Promise 6, play: when there is nothing to play, and which of several moves is made. */
final class Promise06PlayTest extends Cases {
    public static void main(String[] args) {
        run(Promise06PlayTest.class);
    }

    /** The best move is this one, and play() makes it. */
    private void plays(int from, int to, int answer) {
        due(x.now(6), from);
        due(x.now(7), to);
        int who = x.now(0);
        int[] stood = {x.now(1), x.now(2), x.now(3)};
        due(x.play(), answer);
        if (who == 1) {
            stands(0, to, stood[1], stood[2]);
        } else {
            int other = from == stood[1] ? stood[2] : stood[1];
            stands(1, stood[0], Math.min(to, other), Math.max(to, other));
        }
    }

    private void board(String text, int... settings) {
        read(text);
        for (int setting : settings) {
            x.set(setting, 1);
        }
    }

    void theHuntersHaveNoMove() {
        board("HH#./##../..F./....h");
        due(x.play(), NOT_POSSIBLE);
    }

    void theHuntersHaveNoMoveAcrossCornersEither() {
        board("HH#./###./..F./....h", HUNT);
        due(x.play(), NOT_POSSIBLE);
    }

    void toStayIsAMove() {
        board("HH#./##../..F./....h", PASS);
        plays(0, 0, 0);
    }

    void theFoxHasNoMove() {
        x.setUp(1, 0, 1, 4);
        due(x.play(), NOT_POSSIBLE);
    }

    void theFoxIsCaughtByAHunter() {
        x.setUp(0, 5, 4, 15);
        x.move(4, 5);
        due(x.play(), NOT_POSSIBLE);
    }

    void theFoxIsCaughtByPlayItself() {
        x.setUp(0, 5, 4, 15);
        due(x.play(), 1);
        due(x.play(), NOT_POSSIBLE);
    }

    void aCatchReturns1() {
        x.setUp(0, 5, 4, 15);
        plays(4, 5, 1);
    }

    void aStepThatLeavesNoMoveReturns1() {
        board("F#../..../H.../...Hh");
        plays(8, 4, 1);
    }

    void anyOtherMoveReturns0() {
        plays(0, 1, 0);
        plays(5, 4, 0);
    }

    void aCatchComesBeforeAStepThatLeavesNoMove() {
        x.setUp(0, 0, 2, 4);
        plays(4, 0, 1);
    }

    void aCatchComesBeforeToStay() {
        x.set(PASS, 1);
        x.setUp(0, 0, 1, 4);
        plays(1, 0, 1);
    }

    void ofTwoCatchesThatOfTheLowerHunter() {
        x.setUp(0, 5, 6, 4);
        plays(4, 5, 1);
    }

    void theLeastDistanceComesBeforeALowerPlace() {
        board("..#F/##../H..H/....h", FOX, PASS);
        plays(11, 7, 0);
        due(x.now(5), 2);
    }

    void theLeastDistanceOfTheHigherHunterComesBeforeTheLowerHunter() {
        x.setUp(0, 0, 2, 11);
        due(x.distance(1, 0, 1, 11), 8);
        due(x.distance(1, 0, 2, 10), 6);
        plays(11, 10, 0);
    }

    void ofTheSameDistanceTheLowerHunter() {
        x.setUp(0, 0, 6, 9);
        due(x.distance(1, 0, 5, 9), 2);
        due(x.distance(1, 0, 6, 5), 2);
        plays(6, 5, 0);
    }

    void theLowerHunterComesBeforeALowerPlaceToGoTo() {
        x.setUp(0, 3, 0, 1);
        due(x.distance(1, 3, 4, 1), 8);
        due(x.distance(1, 3, 0, 2), 8);
        plays(0, 4, 0);
    }

    void ofTheSameDistanceTheLowerPlace() {
        x.setUp(0, 0, 2, 5);
        due(x.distance(1, 0, 1, 5), 2);
        due(x.distance(1, 0, 3, 5), 2);
        due(x.distance(1, 0, 6, 5), 2);
        plays(2, 1, 0);
    }

    void movesWithoutADistanceComeLast() {
        board("H#../#H../..../F...h", FOX);
        due(x.distance(1, 12, 0, 6), NONE);
        due(x.distance(1, 12, 0, 9), 2);
        plays(5, 9, 0);
    }

    void ofMovesWithoutADistanceTheFirst() {
        board("H#F./#H../..../....h");
        due(x.now(5), NONE);
        due(x.distance(1, 2, 0, 6), NONE);
        due(x.distance(1, 2, 0, 9), NONE);
        plays(5, 6, 0);
    }

    void toStayComesBehindALowerHuntersMoveWithTheSameDistance() {
        x.set(PASS, 1);
        x.setUp(0, 0, 2, 5);
        due(x.distance(1, 0, 1, 5), 2);
        due(x.distance(1, 0, 2, 5), 2);
        plays(2, 1, 0);
    }

    void toStayComesBehindAHigherHuntersMoveWithTheSameDistance() {
        board("H#.F/H.../..../....h", PASS);
        due(x.distance(1, 3, 0, 5), 8);
        due(x.distance(1, 3, 0, 4), 8);
        plays(4, 5, 0);
    }

    void toStayComesBehindMovesWithoutADistance() {
        board("F.#H/##.H/..../....h", PASS);
        due(x.now(5), NONE);
        due(x.distance(1, 0, 3, 6), NONE);
        due(x.distance(1, 0, 3, 7), NONE);
        plays(7, 6, 0);
    }

    void toStayIsBestIfItsDistanceIsLess() {
        x.set(PASS, 1);
        x.setUp(0, 5, 0, 10);
        due(x.now(5), 3);
        plays(0, 0, 0);
        due(x.now(5), 2);
    }

    void toStayIsBestIfItAloneHasADistance() {
        board("H#../#.#./.#H./...Fh", FOX, PASS);
        due(x.now(5), 3);
        plays(0, 0, 0);
        due(x.now(5), 2);
    }

    void toStayIsToldWithThePlaceOfTheLowerHunter() {
        board("..../H#F./...H/....h", FOX, PASS);
        due(x.now(5), 7);
        plays(4, 4, 0);
        due(x.now(5), 6);
    }

    void theFoxTakesTheGreatestDistance() {
        x.setUp(1, 0, 2, 3);
        due(x.distance(0, 1, 2, 3), 1);
        due(x.distance(0, 4, 2, 3), 7);
        plays(0, 4, 0);
    }

    void theFoxTakesTheFirstPlaceOfSeveral() {
        x.setUp(1, 0, 2, 5);
        due(x.distance(0, 1, 2, 5), 1);
        due(x.distance(0, 4, 2, 5), 1);
        plays(0, 1, 0);
    }

    void theFoxTakesAMoveWithoutADistance() {
        board("H##./#.HF/..../....f");
        due(x.distance(0, 3, 0, 6), 1);
        due(x.distance(0, 11, 0, 6), NONE);
        plays(7, 11, 0);
    }

    void theFoxTakesTheFirstMoveWithoutADistance() {
        board("H#F./#.../.H../....f");
        due(x.distance(0, 3, 0, 9), NONE);
        due(x.distance(0, 6, 0, 9), NONE);
        plays(2, 3, 0);
    }

    void itIsAChange() {
        x.play();
        due(x.now(15), 1);
        due(x.undo(), 0);
        stands(0, 5, 0, 15);
    }

    void noMoveChangesNothing() {
        Steps stuck = x -> {
            x.wipe();
            Texts.put(x, "HH#./###./..F./....h");
            x.readPad();
            x.set(PASS, 0);
        };
        refused(stuck, BoardEnds::play, NOT_POSSIBLE);
    }

    void aFoxWithoutAMoveChangesNothing() {
        Steps alone = x -> {
            x.set(FOX, 0);
            x.setUp(1, 0, 1, 4);
        };
        refused(alone, BoardEnds::play, NOT_POSSIBLE);
    }

    void aFoxThatIsCaughtChangesNothing() {
        Steps caught = x -> {
            x.setUp(0, 5, 4, 15);
            x.move(4, 5);
        };
        refused(caught, BoardEnds::play, NOT_POSSIBLE);
    }
}
