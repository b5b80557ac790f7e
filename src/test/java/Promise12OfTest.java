/** Promise 12, of: the ranges of both arguments, numbers without a position, and the ends of each answer. */
final class Promise12OfTest extends Cases {
    private static final int LAST = 4085;

    public static void main(String[] args) {
        run(Promise12OfTest.class);
    }

    /** No position has this number, whatever is asked. */
    private void nobody(int number) {
        for (int what = 0; what < 7; what++) {
            due(x.of(number, what), NO_SUCH);
        }
    }

    void numberMinus1IsABadValue() {
        due(x.of(-1, 0), BAD_VALUE);
    }

    void number0IsInRange() {
        nobody(0);
    }

    void number4095IsInRange() {
        nobody(4095);
    }

    void number4096IsABadValue() {
        due(x.of(4096, 0), BAD_VALUE);
    }

    void numbersFarOutAreBadValues() {
        for (int number : new int[] {LEAST, LEAST + 15, -4081, -4096 + 15, 4096 + 15, 8192 + 15, 65536 + 15, MOST}) {
            due(x.of(number, 0), BAD_VALUE);
        }
    }

    void whatMinus1IsABadValue() {
        due(x.of(15, -1), BAD_VALUE);
    }

    void what0IsTheFirst() {
        due(x.of(15, 0), 0);
    }

    void what6IsTheLast() {
        due(x.of(15, 6), 8);
    }

    void what7IsABadValue() {
        due(x.of(15, 7), BAD_VALUE);
    }

    void whatsFarOutAreBadValues() {
        for (int what : new int[] {LEAST, LEAST + 1, -8, -6, 8, 256, MOST}) {
            due(x.of(15, what), BAD_VALUE);
        }
    }

    void badValueComesBeforeNoSuch() {
        due(x.of(0, -1), BAD_VALUE);
        due(x.of(0, 7), BAD_VALUE);
        due(x.of(4095, 7), BAD_VALUE);
        due(x.of(120, -1), BAD_VALUE);
    }

    void theFirstNumberWithAPosition() {
        nobody(14);
        due(x.of(15, 1), 0);
        due(x.of(15, 2), 1);
        due(x.of(15, 3), 2);
    }

    void theLastNumberWithAPosition() {
        due(x.of(LAST, 0), 1);
        due(x.of(LAST, 1), 15);
        due(x.of(LAST, 2), 13);
        due(x.of(LAST, 3), 14);
        nobody(LAST + 1);
    }

    void pair119IsTheLast() {
        due(x.of(119, 2), 14);
        due(x.of(119, 3), 15);
    }

    void pairs120To127AreNoPairs() {
        for (int pair = 120; pair < 128; pair++) {
            nobody(pair);
            nobody(2048 + 128 * 7 + pair);
        }
    }

    void theLowerHunterAtThePlaceOfTheFox() {
        nobody(0);
        nobody(128 * 14 + 119);
    }

    void theHigherHunterAtThePlaceOfTheFox() {
        nobody(128);
        nobody(2048 + 128 * 15 + 119);
    }

    void theFoxAtABlockedPlace() {
        due(x.of(2048 + 119, 0), 1);
        x.setUp(0, 5, 6, 7);
        x.block(0);
        nobody(2048 + 119);
    }

    void theLowerHunterAtABlockedPlace() {
        due(x.of(128 * 2, 0), 0);
        x.setUp(0, 5, 6, 7);
        x.block(0);
        nobody(128 * 2);
    }

    void theHigherHunterAtABlockedPlace() {
        due(x.of(119, 0), 0);
        x.setUp(0, 5, 6, 7);
        x.block(15);
        nobody(119);
    }

    void aFreedPlaceHasItsPositionsAgain() {
        x.block(1);
        nobody(15);
        x.block(1);
        due(x.of(15, 0), 0);
    }

    void whoMovesIs0UpTo2047AndThen1() {
        due(x.of(2048 - 128 + 117, 0), 0);
        due(x.of(2048 + 15, 0), 1);
    }

    void theDistanceIs0WhenTheFoxIsCaught() {
        due(x.of(2048 + 17, 4), 0);
        due(x.of(17, 4), 1);
    }

    void theDistanceIsNone() {
        read("F.#./##../..../..HHh");
        due(x.of(2048 + 128 + 119, 4), NONE);
    }

    void theRuleTellsNone() {
        read(".#F#/#.HH/..../....h");
        due(x.rule(62), NONE);
        due(x.of(3978, 5), NONE);
        due(x.of(3981, 5), NONE);
    }

    void theRuleTellsTheSameForAllThatAreAlike() {
        due(x.of(15, 5), x.rule(7 + 2));
        due(x.of(LAST, 5), x.rule(49 + 7 + 2));
        due(x.of(2048 + 15, 5), x.rule(49 + 7 + 2));
    }

    void eightAreAlike() {
        due(x.of(15, 6), 8);
        due(x.of(LAST, 6), 8);
    }

    void fourAreAlikeOnAMirror() {
        due(x.of(17, 6), 4);
        due(x.of(2048 + 128 * 15 + 112, 6), 4);
    }

    void oneIsAlikeWithoutSymmetries() {
        x.block(1);
        due(x.of(17 + 128 * 15, 6), NO_SUCH);
        due(x.of(119, 6), 1);
    }

    void twoOrOneAreAlikeWithOneMirror() {
        x.setUp(0, 5, 6, 7);
        x.block(0);
        due(x.of(x.number(0, 1, 2, 3), 6), 2);
        due(x.of(x.number(0, 15, 11, 14), 6), 1);
    }

    void askingChangesNothing() {
        for (int what = 0; what < 7; what++) {
            int asked = what;
            leavesAll(x -> x.of(2048 + 17, asked), new int[] {1, 0, 1, 4, 0, 6, 4}[what]);
        }
    }

    void aBadValueChangesNothing() {
        refused(x -> x.of(-1, 0), BAD_VALUE);
        refused(x -> x.of(4096, 0), BAD_VALUE);
        refused(x -> x.of(15, -1), BAD_VALUE);
        refused(x -> x.of(15, 7), BAD_VALUE);
    }

    void noSuchNumberChangesNothing() {
        refused(x -> x.of(0, 0), NO_SUCH);
        refused(x -> x.of(4095, 6), NO_SUCH);
    }
}
