/** Promise 19, fault: what can stand at each place of a text, and where a text ends too early or too late. */
final class Promise19FaultTest extends Cases {
    private static final String GOOD = "#.FH/H.F#/..../##.Hf";

    public static void main(String[] args) {
        run(Promise19FaultTest.class);
    }

    private void fault(String text, int want) {
        x.wipe();
        put(text);
        due(x.now(14), text.length());
        due(x.fault(), want);
    }

    private void faultWith(char sign, int at, int want) {
        x = new BoardEnds();
        fault(GOOD.substring(0, at) + sign + GOOD.substring(at + 1), want);
    }

    void anEmptyPadHasTheFault0() {
        due(x.fault(), 0);
    }

    void aGoodTextHasNone() {
        fault(GOOD, NONE);
    }

    void anEmptyBoardHasNone() {
        fault("..../..../..../....h", NONE);
    }

    void aBlockedBoardHasNone() {
        fault("####/####/####/####h", NONE);
    }

    void aTextThatEndsTooEarlyHasItsLength() {
        for (int length = 1; length < 20; length++) {
            x = new BoardEnds();
            fault(GOOD.substring(0, length), length);
        }
    }

    void oneCharacterTooFew() {
        fault(GOOD.substring(0, 19), 19);
    }

    void oneCharacterTooMany() {
        fault(GOOD + "f", 20);
        fault(GOOD + ".", 20);
    }

    void fourCharactersTooMany() {
        fault(GOOD + "/..h", 20);
    }

    void aFirstCharacterThatCannotStandThere() {
        for (char sign : "/hfx!~".toCharArray()) {
            faultWith(sign, 0, 0);
        }
    }

    void eachSignAtEachPlaceOfTheBoard() {
        for (int at = 0; at < 19; at++) {
            if (at % 5 != 4) {
                for (char sign : ".#FH".toCharArray()) {
                    faultWith(sign, at, NONE);
                }
            }
        }
    }

    void noOtherSignAtAnyPlaceOfTheBoard() {
        for (int at = 0; at < 19; at++) {
            if (at % 5 != 4) {
                for (char sign : "/hf-\"$EGI,x!~".toCharArray()) {
                    faultWith(sign, at, at);
                }
            }
        }
    }

    void onlyASlashBetweenRows() {
        for (int at = 4; at < 19; at += 5) {
            faultWith('/', at, NONE);
            for (char sign : ".#FHhf0x!~".toCharArray()) {
                faultWith(sign, at, at);
            }
        }
    }

    void noSlashBehindTheLastRow() {
        fault(GOOD.substring(0, 19) + "/f", 19);
    }

    void onlyHOrFInTheEnd() {
        faultWith('h', 19, NONE);
        faultWith('f', 19, NONE);
        for (char sign : ".#FH/gix!~".toCharArray()) {
            faultWith(sign, 19, 19);
        }
    }

    void theFirstOfTwoFaultsIsTold() {
        fault("..x./.y../..../....h", 2);
        fault("..../.y../..../....x", 6);
    }

    void aWrongCharacterComesBeforeAnEarlyEnd() {
        fault("..x", 2);
        fault("x", 0);
        fault("....x", 4);
    }

    void aWrongCharacterComesBeforeALateEnd() {
        fault("..../..../..../....xf", 19);
        fault("x.../..../..../....ff", 0);
    }

    void howOftenTheSignsStandThereDoesNotMatter() {
        fault("FFFF/FFFF/FFFF/FFFFf", NONE);
        fault("HHHH/HHHH/HHHH/HHHHh", NONE);
        fault("####/###./..../..FHh", NONE);
    }

    void itCanBeAskedAgain() {
        fault("..x", 2);
        due(x.fault(), 2);
        due(x.now(14), 3);
        x.wipe();
        due(x.fault(), 0);
    }

    void askingChangesNothing() {
        leavesAll(BoardEnds::fault, 0);
    }
}
