/** Promise 8, now: the range of what, and the least, the greatest and the missing answers of each. */
final class Promise08NowTest extends Cases {
    public static void main(String[] args) {
        run(Promise08NowTest.class);
    }

    private void catchTheFox() {
        x.setUp(0, 5, 4, 15);
        due(x.move(4, 5), 1);
    }

    void whatMinus1IsABadValue() {
        due(x.now(-1), BAD_VALUE);
    }

    void what0IsTheFirst() {
        due(x.now(0), 0);
    }

    void what15IsTheLast() {
        due(x.now(15), 0);
        x.set(FOX, 1);
        due(x.now(15), 1);
    }

    void what16IsABadValue() {
        due(x.now(16), BAD_VALUE);
    }

    void whatsFarOutAreBadValues() {
        for (int what : new int[] {LEAST, LEAST + 5, -16, -6, 17, 32, 37, 256, MOST}) {
            due(x.now(what), BAD_VALUE);
        }
    }

    void badValueIsToldWhenTheFoxIsCaughtToo() {
        catchTheFox();
        due(x.now(-1), BAD_VALUE);
        due(x.now(16), BAD_VALUE);
    }

    void what0IsTheSideThatMoves() {
        due(x.now(0), 0);
        x.setUp(1, 5, 0, 15);
        due(x.now(0), 1);
    }

    void what1IsThePlaceOfTheFox() {
        x.setUp(0, 0, 1, 2);
        due(x.now(1), 0);
        x.setUp(0, 15, 1, 2);
        due(x.now(1), 15);
    }

    void what2IsTheLowerHunter() {
        x.setUp(0, 5, 15, 0);
        due(x.now(2), 0);
        x.setUp(0, 5, 15, 14);
        due(x.now(2), 14);
    }

    void what3IsTheHigherHunter() {
        x.setUp(0, 5, 15, 0);
        due(x.now(3), 15);
        x.setUp(0, 5, 1, 0);
        due(x.now(3), 1);
    }

    void theLowerHunterComesFirstWhenOnePassesTheOther() {
        x.setUp(0, 15, 1, 4);
        x.move(1, 5);
        due(x.now(2), 4);
        due(x.now(3), 5);
    }

    void what4Is0WhileTheFoxIsFree() {
        due(x.now(4), 0);
        x.setUp(1, 0, 1, 8);
        due(x.now(4), 0);
    }

    void what4Is1WhenAHunterIsAtItsPlace() {
        catchTheFox();
        due(x.now(4), 1);
    }

    void what4Is1WhenTheHigherHunterIsAtItsPlace() {
        x.setUp(0, 5, 1, 6);
        due(x.move(6, 5), 1);
        due(x.now(4), 1);
    }

    void what4Is1WhenItMovesAndHasNoMove() {
        x.setUp(1, 0, 1, 4);
        due(x.now(4), 1);
    }

    void what4Is1InEachCornerBetweenTheHunters() {
        int[][] corners = {{0, 1, 4}, {3, 2, 7}, {12, 8, 13}, {15, 11, 14}};
        for (int[] corner : corners) {
            x.setUp(1, corner[0], corner[1], corner[2]);
            due(x.now(4), 1);
            due(x.now(5), 0);
        }
    }

    void what4Is0WhenItHasNoMoveButTheHuntersMove() {
        x.setUp(0, 0, 1, 4);
        due(x.now(4), 0);
    }

    void what4Is1BehindBlockedPlaces() {
        read("F#../#.../H.../...Hf");
        due(x.now(4), 1);
        x.set(FOX, 1);
        due(x.now(4), 0);
    }

    void what5Is0WhenTheFoxIsCaught() {
        catchTheFox();
        due(x.now(5), 0);
        x.setUp(1, 0, 1, 4);
        due(x.now(5), 0);
    }

    void what5Is1BeforeACatch() {
        x.setUp(0, 0, 1, 4);
        due(x.now(5), 1);
    }

    void what5IsNoneWithoutADistance() {
        read("F.#./##../..../..HHh");
        due(x.now(5), NONE);
    }

    void what6And7AreNoneWhenAHunterIsAtItsPlace() {
        catchTheFox();
        due(x.now(6), NONE);
        due(x.now(7), NONE);
    }

    void what6And7AreNoneWhenTheFoxHasNoMove() {
        x.setUp(1, 0, 1, 4);
        due(x.now(6), NONE);
        due(x.now(7), NONE);
    }

    void what6And7AreNoneWhenTheHuntersHaveNoMove() {
        read("HH#./##../..F./....h");
        due(x.now(6), NONE);
        due(x.now(7), NONE);
    }

    void what6And7AreThereWithoutADistance() {
        read("F.#./##../..../..HHh");
        due(x.now(6), 14);
        due(x.now(7), 10);
    }

    void what6And7Reach0And15() {
        x.setUp(1, 0, 4, 15);
        due(x.now(6), 0);
        due(x.now(7), 1);
        x.setUp(0, 0, 1, 15);
        due(x.now(6), 1);
        due(x.now(7), 0);
        x.setUp(0, 15, 0, 14);
        due(x.now(6), 14);
        due(x.now(7), 15);
        x.setUp(1, 15, 0, 11);
        due(x.now(6), 15);
        due(x.now(7), 14);
    }

    void what8And9AreNoneWhenAHunterIsAtItsPlace() {
        catchTheFox();
        due(x.now(8), NONE);
        due(x.now(9), NONE);
    }

    void what8And9AreThereWhenTheFoxHasNoMove() {
        x.setUp(1, 15, 11, 14);
        due(x.now(8), 2048 + 128 * 15 + 112);
        due(x.now(9), 2048 + 17);
    }

    void what8IsLeastAndGreatest() {
        x.setUp(0, 0, 1, 2);
        due(x.now(8), 15);
        x.setUp(1, 15, 13, 14);
        due(x.now(8), 4085);
    }

    void what9IsTheNumberItselfWithoutSymmetries() {
        x.block(1);
        x.setUp(1, 15, 13, 14);
        due(x.now(9), 4085);
    }

    void what10IsEmptyAndFull() {
        due(x.now(10), 0);
        blockSix();
        due(x.now(10), 0b11011110);
    }

    void what10HasThePlace0InItsLowestBitAnd15InItsHighest() {
        x.setUp(0, 5, 6, 7);
        x.block(0);
        due(x.now(10), 1);
        x.block(15);
        due(x.now(10), 0x8001);
    }

    void what11To13AreTheSettings() {
        for (int setting = 0; setting < 3; setting++) {
            due(x.now(11 + setting), 0);
            x.set(setting, 1);
            due(x.now(11 + setting), 1);
        }
        x.set(HUNT, 0);
        due(x.now(11), 1);
        due(x.now(12), 0);
        due(x.now(13), 1);
    }

    void what14IsEmptyAndFull() {
        due(x.now(14), 0);
        put("123456789012345678901234");
        due(x.now(14), 24);
        x.put('.');
        due(x.now(14), 24);
        x.wipe();
        due(x.now(14), 0);
    }

    void what15Is0And6AndNoMore() {
        for (int i = 0; i < 9; i++) {
            due(x.now(15), Math.min(i, 6));
            x.set(FOX, 1);
        }
        for (int i = 5; i >= 0; i--) {
            x.undo();
            due(x.now(15), i);
        }
    }

    void askingChangesNothing() {
        Call all = x -> {
            int last = 0;
            for (int what = 0; what < 16; what++) {
                last = x.now(what);
            }
            return last;
        };
        leavesAll(all, 0);
    }

    void aBadValueChangesNothing() {
        refused(x -> x.now(-1), BAD_VALUE);
        refused(x -> x.now(16), BAD_VALUE);
    }
}
