/** Promise 4, setUp: its ranges and errors (in PlacesCases), and what it returns and changes. */
final class Promise04SetUpTest extends PlacesCases {
    public static void main(String[] args) {
        run(Promise04SetUpTest.class);
    }

    @Override
    int ask(BoardEnds x, int who, int fox, int one, int other) {
        return x.setUp(who, fox, one, other);
    }

    void theLeastDistanceIs0() {
        due(x.setUp(1, 0, 1, 4), 0);
    }

    void aCatchIs1() {
        due(x.setUp(0, 0, 1, 15), 1);
    }

    void theGreatestDistanceOfABoardIs28() {
        read("F#HH/..#./.#../....h");
        x.set(FOX, 1);
        due(x.setUp(1, 0, 2, 3), 28);
    }

    void withoutADistanceItIsNone() {
        read("F.#./##../..../..HHh");
        due(x.setUp(1, 0, 10, 15), NONE);
        stands(1, 0, 10, 15);
        due(x.now(15), 2);
    }

    void thePlacesAreThereThen() {
        x.setUp(1, 15, 14, 0);
        stands(1, 15, 0, 14);
        x.setUp(0, 0, 1, 15);
        stands(0, 0, 1, 15);
    }

    void itIsAChange() {
        x.setUp(1, 6, 2, 3);
        due(x.now(15), 1);
        due(x.undo(), 0);
        stands(0, 5, 0, 15);
    }

    void theSamePositionIsAChangeToo() {
        x.setUp(0, 5, 0, 15);
        due(x.now(15), 1);
        x.setUp(0, 5, 15, 0);
        due(x.now(15), 2);
    }

    void aFoxThatWasCaughtIsFreeThen() {
        x.setUp(0, 5, 4, 6);
        x.move(4, 5);
        due(x.now(4), 1);
        x.setUp(0, 5, 4, 6);
        due(x.now(4), 0);
        due(x.now(5), 1);
    }

    void theBlockedPlacesAndSettingsStay() {
        x.block(9);
        x.set(PASS, 1);
        x.setUp(1, 6, 2, 3);
        due(x.now(10), 1 << 9);
        due(x.now(13), 1);
    }
}
