/** Promise 11, folded: its ranges and errors (in PlacesCases), and boards with all, some and no symmetries. */
final class Promise11FoldedTest extends PlacesCases {
    public static void main(String[] args) {
        run(Promise11FoldedTest.class);
    }

    @Override
    int ask(BoardEnds x, int who, int fox, int one, int other) {
        return x.folded(who, fox, one, other);
    }

    void theLowestNumberStandsForItself() {
        due(x.folded(0, 0, 1, 2), 15);
    }

    void allEightAlikeHaveTheLowestNumber() {
        int[][] alike = {{0, 1, 2}, {0, 4, 8}, {3, 2, 1}, {3, 7, 11}, {12, 8, 4}, {12, 13, 14}, {15, 14, 13}, {15, 11, 7}};
        for (int[] places : alike) {
            due(x.folded(0, places[0], places[1], places[2]), 15);
            due(x.folded(1, places[0], places[2], places[1]), 2048 + 15);
        }
    }

    void theGreatestNumberThatStandsForOthers() {
        int greatest = 2048 + 128 * 5 + 113;
        due(x.folded(1, 5, 11, 15), greatest);
        due(x.folded(1, 5, 14, 15), greatest);
        for (int fox = 5; fox < 14; fox++) {
            due(x.folded(1, fox, 14, 15) <= greatest ? 1 : 0, 1);
        }
    }

    void whoMovesStays() {
        due(x.folded(0, 15, 13, 14), 15);
        due(x.folded(1, 15, 13, 14), 2048 + 15);
    }

    void withoutSymmetriesEachStandsForItself() {
        x.block(1);
        due(x.all(2), 1);
        for (int fox = 2; fox < 14; fox++) {
            due(x.folded(1, fox, 14, 15), x.number(1, fox, 14, 15));
        }
    }

    void withOneMirrorTwoAreAlike() {
        x.setUp(0, 5, 6, 7);
        x.block(0);
        due(x.all(2), 2);
        due(x.folded(0, 4, 8, 12), x.number(0, 1, 2, 3));
        due(x.folded(0, 1, 2, 3), x.number(0, 1, 2, 3));
        due(x.folded(0, 14, 13, 12), x.number(0, 11, 7, 3));
        due(x.folded(0, 15, 14, 13), x.number(0, 15, 7, 11));
    }

    void withTheUpperRowBlockedOnlyLeftAndRightAreAlike() {
        x.setUp(0, 5, 6, 15);
        for (int place = 0; place < 4; place++) {
            x.block(place);
        }
        due(x.all(2), 2);
        due(x.folded(0, 7, 6, 5), x.number(0, 4, 5, 6));
        due(x.folded(0, 8, 9, 10), x.number(0, 8, 9, 10));
        due(x.folded(0, 15, 14, 13), x.number(0, 12, 13, 14));
    }

    void withQuarterTurnsFourAreAlike() {
        x.setUp(0, 5, 0, 15);
        for (int place : new int[] {1, 7, 14, 8}) {
            x.block(place);
        }
        due(x.all(2), 4);
        due(x.folded(0, 3, 5, 6), x.number(0, 0, 5, 9));
        due(x.folded(0, 15, 5, 6), x.number(0, 0, 9, 10));
        due(x.folded(0, 12, 5, 6), x.number(0, 0, 6, 10));
        due(x.folded(0, 0, 5, 6), x.number(0, 0, 5, 6));
    }

    void symmetriesThatTheBoardHadBeforeDoNotCount() {
        due(x.folded(1, 14, 13, 15), x.number(1, 1, 0, 2));
        x.block(1);
        due(x.folded(1, 14, 13, 15), x.number(1, 14, 13, 15));
        x.block(1);
        due(x.folded(1, 14, 13, 15), x.number(1, 1, 0, 2));
        x.block(2);
        x.block(13);
        due(x.all(2), 2);
        due(x.folded(1, 14, 11, 15), x.number(1, 1, 0, 4));
        due(x.folded(1, 11, 10, 14), x.number(1, 4, 1, 5));
        due(x.folded(1, 7, 3, 6), x.number(1, 7, 3, 6));
    }

    void onTheMirrorAPositionStandsForItself() {
        due(x.folded(1, 0, 1, 4), 2048 + 17);
        due(x.folded(1, 15, 11, 14), 2048 + 17);
    }

    void askingChangesNothing() {
        leavesAll(x -> x.folded(0, 15, 13, 14), 15);
    }
}
