/** Promise 10, number: its ranges and errors (in PlacesCases), and the first and the last of each part of it. */
final class Promise10NumberTest extends PlacesCases {
    public static void main(String[] args) {
        run(Promise10NumberTest.class);
    }

    @Override
    int ask(BoardEnds x, int who, int fox, int one, int other) {
        return x.number(who, fox, one, other);
    }

    void theFirstPair() {
        due(x.number(0, 2, 0, 1), 128 * 2);
    }

    void theLastPairOfPlace0AndTheFirstOfPlace1() {
        due(x.number(0, 3, 0, 15), 128 * 3 + 14);
        due(x.number(0, 3, 1, 2), 128 * 3 + 15);
    }

    void theLastPairOfPlace1AndTheFirstOfPlace2() {
        due(x.number(0, 0, 1, 15), 28);
        due(x.number(0, 0, 2, 3), 29);
    }

    void theLastPair() {
        due(x.number(0, 0, 14, 15), 119);
        due(x.number(0, 0, 13, 15), 118);
        due(x.number(0, 0, 13, 14), 117);
    }

    void everyPairHasTheNextNumber() {
        int next = 0;
        for (int low = 0; low < 16; low++) {
            for (int high = low + 1; high < 16; high++) {
                int fox = low > 1 ? 0 : high < 15 ? 15 : 14;
                due(x.number(0, fox, low, high), 128 * fox + next);
                due(x.number(1, fox, high, low), 2048 + 128 * fox + next);
                next++;
            }
        }
        due(next, 120);
    }

    void everyPlaceOfTheFoxIs128More() {
        for (int fox = 0; fox < 14; fox++) {
            due(x.number(0, fox, 14, 15), 128 * fox + 119);
        }
        due(x.number(0, 15, 0, 1), 128 * 15);
    }

    void theFoxToMoveIs2048More() {
        due(x.number(0, 0, 1, 2), 15);
        due(x.number(1, 0, 1, 2), 2048 + 15);
    }

    void theLeastNumberOfAPosition() {
        due(x.number(0, 0, 1, 2), 15);
        for (int number = 0; number < 15; number++) {
            due(x.of(number, 0), NO_SUCH);
        }
    }

    void theGreatestNumberOfAPosition() {
        due(x.number(1, 15, 13, 14), 4085);
        for (int number = 4086; number < 4096; number++) {
            due(x.of(number, 0), NO_SUCH);
        }
    }

    void blockedPlacesDoNotChangeTheNumbers() {
        x.block(1);
        x.block(7);
        due(x.number(0, 3, 0, 15), 128 * 3 + 14);
        due(x.number(1, 15, 13, 14), 4085);
    }

    void askingChangesNothing() {
        leavesAll(x -> x.number(0, 0, 1, 2), 15);
    }
}
