/** The terms ahead of the promises: conventions, the board, numbers, the rule; and the last of 512 calls. */
final class TermsTest extends Cases {
    private static final int CALLS = 512;

    public static void main(String[] args) {
        run(TermsTest.class);
    }

    void theErrorCodes() {
        due(BoardEnds.NO_SUCH, -1);
        due(BoardEnds.BAD_VALUE, -2);
        due(BoardEnds.BAD_TEXT, -3);
        due(BoardEnds.TOO_MANY, -4);
        due(BoardEnds.NOT_POSSIBLE, -5);
    }

    void noneIsNoErrorCode() {
        due(BoardEnds.NONE, -6);
    }

    void theSettings() {
        due(BoardEnds.FOX, 0);
        due(BoardEnds.HUNT, 1);
        due(BoardEnds.PASS, 2);
    }

    void noneIsToldOnlyIfNoErrorApplies() {
        x.setUp(1, 0, 1, 4);
        due(x.line(1), NONE);
        due(x.line(0), BAD_VALUE);
        due(x.now(6), NONE);
        due(x.now(-6), BAD_VALUE);
        due(x.withDistance(NONE) >= 0 ? 1 : 0, 1);
    }

    void anAnswerOfNoneIsAChangeOfAMethodThatIsOne() {
        read("F.#./##../..../..HHh");
        due(x.setUp(1, 1, 14, 15), NONE);
        due(x.now(15), 2);
        stands(1, 1, 14, 15);
    }

    void setsOfPlacesAreBitMasks() {
        x.setUp(0, 5, 6, 9);
        int set = 0;
        for (int place : new int[] {0, 15, 3, 12, 1, 14}) {
            x.block(place);
            set |= 1 << place;
            due(x.now(10), set);
        }
        due(set, 0b1101000000001011);
    }

    void nobodyIsAtABlockedPlace() {
        x.block(9);
        for (int who = 0; who < 2; who++) {
            due(x.setUp(who, 9, 1, 2), BAD_VALUE);
            due(x.distance(who, 1, 9, 2), BAD_VALUE);
            due(x.number(who, 1, 2, 9), BAD_VALUE);
        }
        due(x.all(0), 2 * 15 * 91);
    }

    void everyPlaceIs4TimesTheRowAndTheColumn() {
        read("..../..F./.H../...Hh");
        stands(0, 4 + 2, 4 * 2 + 1, 4 * 3 + 3);
    }

    void theLesserOfTheKeyIsTheNearerHunter() {
        due(x.of(x.number(0, 0, 1, 15), 5), x.rule(7 + 6));
        due(x.of(x.number(0, 0, 14, 15), 5), x.rule(7 * 5 + 6));
        due(x.of(x.number(0, 15, 0, 1), 5), x.rule(7 * 5 + 6));
    }

    void theRuleOfTheFoxBeginsAt49() {
        due(x.of(x.number(1, 0, 1, 15), 5), x.rule(49 + 7 + 6));
        due(x.of(x.number(1, 0, 1, 4), 5), x.rule(49 + 7 + 1));
    }

    void whatIsToldOfOneBoardIsNotToldOfAnother() {
        for (int place : new int[] {0, 1, 2, 3, 12, 13, 14, 15}) {
            for (int setting = 0; setting < 3; setting++) {
                BoardEnds asked = new BoardEnds();
                asked.setUp(0, 5, 6, 9);
                asked.block(place);
                asked.all(3);
                asked.block(place);
                asked.set(setting, 1);
                BoardEnds fresh = new BoardEnds();
                fresh.setUp(0, 5, 6, 9);
                fresh.set(setting, 1);
                for (int what = 0; what < 11; what++) {
                    due(asked.all(what), fresh.all(what));
                }
                due(asked.distance(0, 5, 0, 15), fresh.distance(0, 5, 0, 15));
            }
        }
    }

    void the512thCallIsAnswered() {
        for (int call = 1; call < CALLS; call++) {
            x.set(call % 3, call / 3 % 2);
        }
        due(x.now(15), 6);
    }

    void the512thCallOfTheDearestOnesIsAnswered() {
        for (int call = 1; call < CALLS; call += 2) {
            x.set(call / 2 % 3, call / 6 % 2);
            due(x.all(0), 3360);
        }
    }
}
