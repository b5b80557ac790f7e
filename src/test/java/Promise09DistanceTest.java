/** Promise 9, distance: its ranges and errors (in PlacesCases), and each way in which a distance comes about. */
final class Promise09DistanceTest extends PlacesCases {
    public static void main(String[] args) {
        run(Promise09DistanceTest.class);
    }

    @Override
    int ask(BoardEnds x, int who, int fox, int one, int other) {
        return x.distance(who, fox, one, other);
    }

    void itIs0IfTheFoxMovesAndHasNoMove() {
        due(x.distance(1, 0, 1, 4), 0);
        due(x.distance(1, 15, 14, 11), 0);
    }

    void itIsNot0IfTheFoxHasOneMove() {
        due(x.distance(1, 0, 1, 8), 2);
    }

    void itIs0InEachCorner() {
        due(x.distance(1, 0, 1, 4), 0);
        due(x.distance(1, 3, 2, 7), 0);
        due(x.distance(1, 12, 8, 13), 0);
        due(x.distance(1, 15, 11, 14), 0);
        due(x.withDistance(0), 1);
    }

    void itIs0BehindBlockedPlaces() {
        x.block(1);
        x.block(4);
        due(x.distance(1, 0, 14, 15), 0);
    }

    void itIs1IfTheHuntersCanCatch() {
        due(x.distance(0, 0, 1, 15), 1);
        due(x.distance(0, 0, 4, 15), 1);
        due(x.distance(0, 0, 1, 4), 1);
    }

    void itIs1IfAStepLeavesTheFoxNoMove() {
        x.block(1);
        due(x.distance(0, 0, 8, 15), 1);
    }

    void itIs1AndTheGreatestIfTheFoxMoves() {
        due(x.distance(0, 1, 3, 8), 3);
        due(x.distance(0, 4, 3, 8), 1);
        due(x.distance(1, 0, 3, 8), 4);
        due(x.distance(0, 1, 2, 3), 1);
        due(x.distance(0, 4, 2, 3), 7);
        due(x.distance(1, 0, 2, 3), 8);
    }

    void itIsNoneIfOneMoveOfTheFoxLeadsToNone() {
        read("H##./#.HF/..../....f");
        due(x.distance(0, 3, 0, 6), 1);
        due(x.distance(0, 11, 0, 6), NONE);
        due(x.distance(1, 7, 0, 6), NONE);
    }

    void itIsNoneIfAllMovesOfTheFoxLeadToNone() {
        read("H#F./#.../.H../....f");
        due(x.distance(0, 3, 0, 9), NONE);
        due(x.distance(0, 6, 0, 9), NONE);
        due(x.distance(1, 2, 0, 9), NONE);
    }

    void itIs1AndTheLeastIfTheHuntersMove() {
        due(x.distance(1, 0, 1, 11), 8);
        due(x.distance(1, 0, 2, 10), 6);
        due(x.distance(0, 0, 2, 11), 7);
    }

    void movesToNoneDoNotCountIfAnotherHasADistance() {
        read("H#../#H../..../F...h");
        x.set(FOX, 1);
        due(x.distance(1, 12, 0, 6), NONE);
        due(x.distance(1, 12, 0, 9), 2);
        due(x.distance(0, 12, 0, 5), 3);
    }

    void itIsNoneIfAllMovesOfTheHuntersLeadToNone() {
        read("H#F./#H../..../....h");
        due(x.distance(1, 2, 0, 6), NONE);
        due(x.distance(1, 2, 0, 9), NONE);
        due(x.distance(0, 2, 0, 5), NONE);
    }

    void itIsNoneIfTheHuntersHaveNoMove() {
        read("HH#./##../..F./....h");
        due(x.distance(0, 10, 0, 1), NONE);
    }

    void toStayCountsIfPassIs1() {
        due(x.distance(0, 5, 0, 10), 5);
        x.set(PASS, 1);
        due(x.distance(0, 5, 0, 10), 3);
    }

    void toStayAloneCanHaveADistance() {
        read("H#../#.#./.#H./...Fh");
        x.set(FOX, 1);
        due(x.distance(0, 15, 0, 10), NONE);
        x.set(PASS, 1);
        due(x.distance(0, 15, 0, 10), 3);
    }

    void itIs3BehindBlockedPlacesWithAllSettings() {
        x.set(FOX, 1);
        x.set(HUNT, 1);
        x.set(PASS, 1);
        for (int place : new int[] {1, 2, 7, 10}) {
            x.block(place);
        }
        due(x.distance(0, 0, 8, 11), 3);
    }

    void acrossCornersTheFoxHasAMoveIfFoxIs1() {
        x.set(FOX, 1);
        due(x.distance(1, 0, 1, 4) > 0 ? 1 : 0, 1);
        due(x.distance(0, 5, 1, 2), x.distance(1, 0, 1, 4) - 1);
        x.setUp(0, 10, 1, 4);
        x.block(5);
        due(x.distance(1, 0, 1, 4), 0);
    }

    void acrossCornersTheHuntersCatchIfHuntIs1() {
        due(x.distance(0, 5, 0, 15), 9);
        x.set(HUNT, 1);
        due(x.distance(0, 5, 0, 15), 1);
        due(x.distance(0, 5, 10, 15), 1);
    }

    void theGreatestDistanceOfABoardIs28() {
        read("F#HH/..#./.#../....h");
        x.set(FOX, 1);
        due(x.distance(1, 0, 2, 3), 28);
        due(x.distance(1, 0, 2, 3), x.all(3));
    }

    void askingChangesNothing() {
        leavesAll(x -> x.distance(1, 0, 1, 4), 0);
        leavesAll(x -> x.distance(0, 0, 1, 4), 1);
    }
}
