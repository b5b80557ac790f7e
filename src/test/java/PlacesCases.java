/** What setUp(), distance(), number() and folded() have in common: the ranges of four arguments, and the errors. */
abstract class PlacesCases extends Cases {
    abstract int ask(BoardEnds x, int who, int fox, int one, int other);

    private int ask(int who, int fox, int one, int other) {
        return ask(x, who, fox, one, other);
    }

    private void good(int who, int fox, int one, int other) {
        int answer = ask(who, fox, one, other);
        due(answer >= 0 || answer == NONE ? 1 : 0, 1);
    }

    void foxMinus1IsNoPlace() {
        due(ask(0, -1, 1, 2), NO_SUCH);
    }

    void fox0IsTheFirstPlace() {
        good(0, 0, 1, 2);
        good(1, 0, 1, 2);
    }

    void fox15IsTheLastPlace() {
        good(0, 15, 1, 2);
        good(1, 15, 1, 2);
    }

    void fox16IsNoPlace() {
        due(ask(0, 16, 1, 2), NO_SUCH);
    }

    void oneMinus1IsNoPlace() {
        due(ask(0, 3, -1, 2), NO_SUCH);
    }

    void one0IsTheFirstPlace() {
        good(0, 3, 0, 2);
        good(1, 3, 0, 2);
    }

    void one15IsTheLastPlace() {
        good(0, 3, 15, 2);
        good(1, 3, 15, 2);
    }

    void one16IsNoPlace() {
        due(ask(0, 3, 16, 2), NO_SUCH);
    }

    void otherMinus1IsNoPlace() {
        due(ask(0, 3, 1, -1), NO_SUCH);
    }

    void other0IsTheFirstPlace() {
        good(0, 3, 2, 0);
        good(1, 3, 2, 0);
    }

    void other15IsTheLastPlace() {
        good(0, 3, 2, 15);
        good(1, 3, 2, 15);
    }

    void other16IsNoPlace() {
        due(ask(0, 3, 1, 16), NO_SUCH);
    }

    void placesFarOutAreNoPlaces() {
        for (int place : new int[] {LEAST, LEAST + 5, -27, -32, 32, 37, MOST}) {
            due(ask(0, place, 1, 2), NO_SUCH);
            due(ask(0, 3, place, 2), NO_SUCH);
            due(ask(0, 3, 1, place), NO_SUCH);
        }
    }

    void whoMinus1IsABadValue() {
        due(ask(-1, 3, 1, 2), BAD_VALUE);
    }

    void who0IsTheHunters() {
        good(0, 3, 1, 2);
    }

    void who1IsTheFox() {
        good(1, 3, 1, 2);
    }

    void who2IsABadValue() {
        due(ask(2, 3, 1, 2), BAD_VALUE);
    }

    void whoFarOutIsABadValue() {
        due(ask(LEAST, 3, 1, 2), BAD_VALUE);
        due(ask(LEAST + 1, 3, 1, 2), BAD_VALUE);
        due(ask(MOST, 3, 1, 2), BAD_VALUE);
    }

    void theFoxAndOneHunterAtThePlaceIsABadValue() {
        due(ask(0, 0, 0, 2), BAD_VALUE);
        due(ask(1, 15, 15, 2), BAD_VALUE);
    }

    void theFoxAndTheOtherHunterAtThePlaceIsABadValue() {
        due(ask(0, 0, 2, 0), BAD_VALUE);
        due(ask(1, 15, 2, 15), BAD_VALUE);
    }

    void bothHuntersAtThePlaceIsABadValue() {
        due(ask(0, 3, 0, 0), BAD_VALUE);
        due(ask(1, 3, 15, 15), BAD_VALUE);
    }

    void allThreeAtThePlaceIsABadValue() {
        due(ask(0, 7, 7, 7), BAD_VALUE);
    }

    void theFoxAtABlockedPlaceIsABadValue() {
        x.setUp(0, 5, 6, 7);
        x.block(0);
        x.block(15);
        due(ask(0, 0, 1, 2), BAD_VALUE);
        due(ask(1, 15, 1, 2), BAD_VALUE);
    }

    void oneHunterAtABlockedPlaceIsABadValue() {
        x.setUp(0, 5, 6, 7);
        x.block(0);
        x.block(15);
        due(ask(0, 3, 0, 2), BAD_VALUE);
        due(ask(1, 3, 15, 2), BAD_VALUE);
    }

    void theOtherHunterAtABlockedPlaceIsABadValue() {
        x.setUp(0, 5, 6, 7);
        x.block(0);
        x.block(15);
        due(ask(0, 3, 2, 0), BAD_VALUE);
        due(ask(1, 3, 2, 15), BAD_VALUE);
    }

    void aPlaceThatWasFreedIsGoodAgain() {
        x.block(9);
        due(ask(0, 9, 1, 2), BAD_VALUE);
        x.block(9);
        good(0, 9, 1, 2);
    }

    void noSuchPlaceComesBeforeABadWho() {
        due(ask(2, 16, 1, 2), NO_SUCH);
        due(ask(2, 3, -1, 2), NO_SUCH);
        due(ask(-1, 3, 1, 16), NO_SUCH);
    }

    void noSuchPlaceComesBeforeTwoThatAreTheSame() {
        due(ask(0, 16, 2, 2), NO_SUCH);
        due(ask(0, 2, -1, 2), NO_SUCH);
        due(ask(0, 2, 2, 16), NO_SUCH);
        due(ask(0, 16, 16, 2), NO_SUCH);
        due(ask(0, 3, -1, -1), NO_SUCH);
        due(ask(0, 16, 16, 16), NO_SUCH);
    }

    void noSuchPlaceComesBeforeABlockedOne() {
        x.block(9);
        due(ask(0, 16, 9, 2), NO_SUCH);
        due(ask(0, 9, -1, 2), NO_SUCH);
        due(ask(0, 9, 2, 16), NO_SUCH);
    }

    void theOrderOfTheHuntersDoesNotMatter() {
        for (int fox = 3; fox < 15; fox++) {
            due(ask(1, fox, 0, 15), ask(1, fox, 15, 0));
            due(ask(0, fox, 1, 2), ask(0, fox, 2, 1));
        }
    }

    void noSuchPlaceChangesNothing() {
        refused(x -> ask(x, 0, -1, 1, 2), NO_SUCH);
        refused(x -> ask(x, 0, 1, 16, 2), NO_SUCH);
        refused(x -> ask(x, 0, 1, 2, 16), NO_SUCH);
    }

    void aBadWhoChangesNothing() {
        refused(x -> ask(x, -1, 3, 1, 2), BAD_VALUE);
        refused(x -> ask(x, 2, 3, 1, 2), BAD_VALUE);
    }

    void placesThatAreTheSameChangeNothing() {
        refused(x -> ask(x, 0, 1, 1, 2), BAD_VALUE);
        refused(x -> ask(x, 0, 1, 2, 1), BAD_VALUE);
        refused(x -> ask(x, 0, 1, 2, 2), BAD_VALUE);
    }

    void blockedPlacesChangeNothing() {
        refused(x -> x.block(14), x -> ask(x, 0, 14, 1, 2), BAD_VALUE);
        refused(x -> x.block(14), x -> ask(x, 0, 1, 14, 2), BAD_VALUE);
        refused(x -> x.block(14), x -> ask(x, 0, 1, 2, 14), BAD_VALUE);
    }
}
