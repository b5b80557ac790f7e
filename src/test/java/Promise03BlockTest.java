/** Promise 3, block: the ends of the board, six places and no more, who is there, and the order of the errors. */
final class Promise03BlockTest extends Cases {
    public static void main(String[] args) {
        run(Promise03BlockTest.class);
    }

    void placeMinus1IsNoPlace() {
        due(x.block(-1), NO_SUCH);
    }

    void place0IsTheFirst() {
        x.setUp(0, 5, 1, 15);
        due(x.block(0), 1);
        due(x.now(10), 1);
    }

    void place15IsTheLast() {
        x.setUp(0, 5, 0, 14);
        due(x.block(15), 1);
        due(x.now(10), 1 << 15);
    }

    void place16IsNoPlace() {
        due(x.block(16), NO_SUCH);
    }

    void placesFarOutAreNoPlaces() {
        for (int place : new int[] {LEAST, LEAST + 1, -16, -31, 17, 33, 34, 65, MOST}) {
            due(x.block(place), NO_SUCH);
        }
    }

    void theFirstBlockedPlaceMakesOne() {
        due(x.block(1), 1);
    }

    void theLastOneFreedLeavesNone() {
        x.block(1);
        due(x.block(1), 0);
        due(x.now(10), 0);
    }

    void aSixthPlaceIsAllowed() {
        int[] places = {1, 2, 3, 4, 6, 7};
        for (int i = 0; i < 6; i++) {
            due(x.block(places[i]), i + 1);
        }
        due(x.now(10), 0b11011110);
    }

    void aSeventhPlaceIsTooMany() {
        blockSix();
        due(x.block(8), TOO_MANY);
        due(x.block(14), TOO_MANY);
    }

    void aSeventhPlaceIsTooManyAfterReadPad() {
        read("####/##../..H./..FHh");
        due(x.block(6), TOO_MANY);
    }

    void aSeventhPlaceIsTooManyAfterRestore() {
        blockSix();
        x.save(0);
        x.block(1);
        x.restore(0);
        due(x.block(8), TOO_MANY);
    }

    void oneOfSixIsFreed() {
        for (int place : new int[] {1, 2, 3, 4, 6, 7}) {
            x = new BoardEnds();
            blockSix();
            due(x.block(place), 5);
            due(x.now(10), 0b11011110 & ~(1 << place));
        }
    }

    void anotherSixthIsAllowedWhenOneWasFreed() {
        blockSix();
        x.block(3);
        due(x.block(14), 6);
        due(x.block(3), TOO_MANY);
    }

    void anotherSixthIsAllowedWhenOneWasUndone() {
        blockSix();
        x.undo();
        due(x.block(14), 6);
    }

    void theFoxIsThere() {
        due(x.block(5), NOT_POSSIBLE);
    }

    void theLowerHunterIsThere() {
        due(x.block(0), NOT_POSSIBLE);
    }

    void theHigherHunterIsThere() {
        due(x.block(15), NOT_POSSIBLE);
    }

    void theFoxAndTheHunterThatCaughtItAreThere() {
        x.setUp(0, 5, 4, 11);
        x.move(4, 5);
        due(x.block(5), NOT_POSSIBLE);
        due(x.block(11), NOT_POSSIBLE);
        due(x.block(4), 1);
    }

    void aPlaceThatTheFoxLeftCanBeBlocked() {
        x.setUp(1, 5, 0, 15);
        x.move(5, 6);
        due(x.block(6), NOT_POSSIBLE);
        due(x.block(5), 1);
    }

    void tooManyComesBeforeTheFoxThatIsThere() {
        blockSix();
        due(x.block(5), TOO_MANY);
    }

    void tooManyComesBeforeAHunterWhoIsThere() {
        blockSix();
        due(x.block(0), TOO_MANY);
        due(x.block(15), TOO_MANY);
    }

    void withFiveTheFoxThatIsThereIsTold() {
        blockSix();
        x.block(7);
        due(x.block(5), NOT_POSSIBLE);
        due(x.block(0), NOT_POSSIBLE);
        due(x.block(15), NOT_POSSIBLE);
    }

    void noSuchPlaceComesBeforeTooMany() {
        blockSix();
        due(x.block(-1), NO_SUCH);
        due(x.block(16), NO_SUCH);
    }

    void itIsAChange() {
        x.block(1);
        due(x.now(15), 1);
        x.block(1);
        due(x.now(15), 2);
        due(x.undo(), 1);
        due(x.now(10), 2);
        due(x.undo(), 0);
        due(x.now(10), 0);
    }

    void noSuchPlaceChangesNothing() {
        refused(x -> x.block(-1), NO_SUCH);
        refused(x -> x.block(16), NO_SUCH);
        refused(x -> x.block(33), NO_SUCH);
    }

    void tooManyChangesNothing() {
        Steps six = x -> {
            x.wipe();
            Texts.put(x, "####/##../..H./..FHh");
            x.readPad();
        };
        refused(six, x -> x.block(7), TOO_MANY);
        refused(six, x -> x.block(14), TOO_MANY);
    }

    void theFoxThatIsThereChangesNothing() {
        refused(x -> x.block(x.now(1)), NOT_POSSIBLE);
    }

    void aHunterWhoIsThereChangesNothing() {
        refused(x -> x.block(x.now(2)), NOT_POSSIBLE);
        refused(x -> x.block(x.now(3)), NOT_POSSIBLE);
    }
}
