/** Promise 13, line: 1 to 60 moves, and where a line ends. */
final class Promise13LineTest extends Cases {
    public static void main(String[] args) {
        run(Promise13LineTest.class);
    }

    void minus1MovesAreABadValue() {
        due(x.line(-1), BAD_VALUE);
    }

    void noMovesAreABadValue() {
        due(x.line(0), BAD_VALUE);
    }

    void oneMoveIsTheLeast() {
        due(x.line(1), x.number(1, 5, 1, 15));
    }

    void sixtyMovesAreTheMost() {
        read("F.#./##../..../..HHh");
        due(x.line(60), x.line(56));
        due(x.line(60) >= 0 ? 1 : 0, 1);
        due(x.line(59), x.line(55));
    }

    void sixtyOneMovesAreABadValue() {
        due(x.line(61), BAD_VALUE);
        read("F.#./##../..../..HHh");
        due(x.line(61), BAD_VALUE);
    }

    void movesFarOutAreBadValues() {
        for (int moves : new int[] {LEAST, LEAST + 1, -60, -6, 62, 257, MOST}) {
            due(x.line(moves), BAD_VALUE);
        }
    }

    void aBadValueIsToldWhenTheFoxIsCaughtToo() {
        x.setUp(1, 0, 1, 4);
        due(x.line(0), BAD_VALUE);
        due(x.line(61), BAD_VALUE);
        due(x.line(1), NONE);
    }

    void aBadValueIsToldWhenThereIsNoMoveToo() {
        read("HH#./##../..F./....h");
        due(x.line(0), BAD_VALUE);
        due(x.line(61), BAD_VALUE);
        due(x.line(1), NONE);
    }

    void theLastMoveBeforeACatchHasANumber() {
        x.setUp(0, 0, 2, 8);
        due(x.now(5), 3);
        due(x.line(2), x.number(0, 4, 1, 8));
    }

    void aCatchByTheLastMoveIsNone() {
        x.setUp(0, 0, 2, 8);
        due(x.line(3), NONE);
    }

    void aCatchByTheFirstMoveIsNone() {
        x.setUp(0, 0, 1, 8);
        due(x.line(1), NONE);
    }

    void aCatchBeforeTheLastMoveIsNone() {
        x.setUp(0, 0, 2, 8);
        due(x.line(4), NONE);
        due(x.line(60), NONE);
    }

    void aFoxThatOnlyHasNoMoveThenIsNone() {
        read("F#../..../H.../...Hh");
        due(x.now(5), 1);
        due(x.line(1), NONE);
        due(x.line(2), NONE);
    }

    void aFoxThatOnlyHasNoMoveAtTheEndOfALongerLineIsNone() {
        read("F#../..../..../H..Hh");
        due(x.now(5), 3);
        due(x.line(1), x.number(1, 0, 8, 15));
        due(x.line(2), x.number(0, 4, 8, 15));
        due(x.line(3), NONE);
    }

    void aFoxThatIsCaughtAlreadyIsNone() {
        x.setUp(0, 5, 4, 15);
        x.move(4, 5);
        due(x.line(1), NONE);
        due(x.line(60), NONE);
    }

    void aFoxThatHasNoMoveAlreadyIsNone() {
        x.setUp(1, 0, 1, 4);
        due(x.line(1), NONE);
        due(x.line(60), NONE);
    }

    void huntersWithoutAMoveAreNone() {
        read("HH#./##../..F./....h");
        due(x.line(1), NONE);
    }

    void huntersWithoutAMoveBehindAMoveOfTheFoxAreNone() {
        read("HH#./##../..F./....f");
        due(x.line(1), x.number(0, 6, 0, 1));
        due(x.line(2), NONE);
    }

    void huntersWhoMayStayHaveAMove() {
        read("HH#./##../..F./....h");
        x.set(PASS, 1);
        due(x.line(1), x.number(1, 10, 0, 1));
        due(x.line(60), x.line(56));
        due(x.line(60) >= 0 ? 1 : 0, 1);
    }

    void theLongestLineOfABoardEndsAt28() {
        read("F#HH/..#./.#../....f");
        x.set(FOX, 1);
        due(x.now(5), 28);
        for (int moves = 1; moves < 28; moves++) {
            due(x.of(x.line(moves), 4), 28 - moves);
        }
        due(x.line(28), NONE);
    }

    void itTellsWhatPlayDoes() {
        int[] line = new int[9];
        for (int moves = 1; moves < 9; moves++) {
            line[moves] = x.line(moves);
        }
        due(x.line(9), NONE);
        for (int moves = 1; moves < 9; moves++) {
            due(x.play(), 0);
            due(x.now(8), line[moves]);
        }
        due(x.play(), 1);
    }

    void askingChangesNothing() {
        leavesAll(x -> x.line(60), NONE);
        leavesAll(x -> x.line(1), 2048 + 128 * 5 + 28);
    }

    void aBadValueChangesNothing() {
        refused(x -> x.line(0), BAD_VALUE);
        refused(x -> x.line(61), BAD_VALUE);
    }
}
