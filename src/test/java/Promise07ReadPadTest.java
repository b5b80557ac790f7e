/** Promise 7, readPad: one fox, two hunters, six blocked places and no more, and the order of the errors. */
final class Promise07ReadPadTest extends Cases {
    public static void main(String[] args) {
        run(Promise07ReadPadTest.class);
    }

    private void reads(String text, int answer) {
        x = new BoardEnds();
        due(read(text), answer);
    }

    void anEmptyPadIsABadText() {
        due(x.readPad(), BAD_TEXT);
    }

    void nineteenCharactersAreABadText() {
        reads("F..H/..../H.../....", BAD_TEXT);
    }

    void twentyCharactersAreRead() {
        reads("FH../..../H.../....f", 2);
    }

    void twentyOneCharactersAreABadText() {
        reads("F..H/..../H.../....ff", BAD_TEXT);
    }

    void twentyFourCharactersAreABadText() {
        reads("F..H/..../H.../....hhhhh", BAD_TEXT);
    }

    void aFaultAtTheFirstCharacterIsABadText() {
        reads("x.FH/..../H.../....f", BAD_TEXT);
    }

    void aFaultAtTheLastCharacterIsABadText() {
        reads("F..H/..../H.../....x", BAD_TEXT);
        reads("F..H/..../H.../.....", BAD_TEXT);
    }

    void noFoxIsNotPossible() {
        reads("...H/..../H.../....f", NOT_POSSIBLE);
    }

    void oneFoxIsRead() {
        reads("F..H/..../H.../....f", 4);
    }

    void twoFoxesAreNotPossible() {
        reads("F..H/..../H.../...Ff", NOT_POSSIBLE);
    }

    void noHunterIsNotPossible() {
        reads("F.../..../..../....f", NOT_POSSIBLE);
    }

    void oneHunterIsNotPossible() {
        reads("F..H/..../..../....f", NOT_POSSIBLE);
    }

    void twoHuntersAreRead() {
        reads("FH../..../H.../....f", 2);
        stands(1, 0, 1, 8);
    }

    void threeHuntersAreNotPossible() {
        reads("F..H/..../H.../...Hf", NOT_POSSIBLE);
    }

    void sixteenHuntersAreNotPossible() {
        reads("HHHH/HHHH/HHHH/HHHHh", NOT_POSSIBLE);
    }

    void sixteenFoxesAreNotPossible() {
        reads("FFFF/FFFF/FFFF/FFFFf", NOT_POSSIBLE);
    }

    void anEmptyBoardIsNotPossible() {
        reads("..../..../..../....h", NOT_POSSIBLE);
    }

    void twoFoxesAndOneHunterAreNotPossible() {
        reads("FF../..../..../...Hh", NOT_POSSIBLE);
    }

    void noBlockedPlaceIsRead() {
        x.block(1);
        x.block(2);
        read("FH../..../H.../....f");
        due(x.now(10), 0);
    }

    void sixBlockedPlacesAreRead() {
        reads("####/##../..H./..FHh", 1);
        due(x.now(10), 0b111111);
    }

    void sevenBlockedPlacesAreTooMany() {
        reads("####/###./..H./..FHh", TOO_MANY);
    }

    void thirteenBlockedPlacesAreTooMany() {
        reads("####/####/####/#FHHf", TOO_MANY);
    }

    void thePlacesBlockedBeforeDoNotCount() {
        blockSix();
        due(read("..../..F#/..H#/H###h"), 1);
        due(x.now(10), 1 << 7 | 1 << 11 | 1 << 13 | 1 << 14 | 1 << 15);
    }

    void theFirstAndTheLastPlaceAreRead() {
        reads("#.../..../FH../.H.#h", 1);
        due(x.now(10), 1 | 1 << 15);
        reads("F.../..../..../.H.Hf", 8);
        stands(1, 0, 13, 15);
        reads("H.H./..../..../...Ff", 8);
        stands(1, 15, 0, 2);
    }

    void hTellsThatTheHuntersMove() {
        read("FH../..../H.../....h");
        due(x.now(0), 0);
    }

    void fTellsThatTheFoxMoves() {
        read("FH../..../H.../....f");
        due(x.now(0), 1);
    }

    void badTextComesBeforeNotPossible() {
        reads("FFHH/..../..../....x", BAD_TEXT);
        reads("..../..../..../....", BAD_TEXT);
    }

    void badTextComesBeforeTooMany() {
        reads("####/####/FHH./....x", BAD_TEXT);
        reads("####/####/FHH./....", BAD_TEXT);
    }

    void notPossibleComesBeforeTooMany() {
        reads("####/####/.HH./....h", NOT_POSSIBLE);
        reads("####/####/FH../....h", NOT_POSSIBLE);
        reads("####/####/####/####f", NOT_POSSIBLE);
    }

    void badTextComesBeforeBoth() {
        reads("####/####/F.../....", BAD_TEXT);
    }

    void aCaughtFoxHasTheDistance0() {
        reads("FH../H.../..../....f", 0);
        due(x.now(4), 1);
    }

    void withoutADistanceItIsNone() {
        reads("F.#./##../..../..HHf", NONE);
    }

    void nothingOfALongerTextBeforeCounts() {
        put("FH../..../H.../....fFHHH");
        due(x.readPad(), BAD_TEXT);
        due(x.wipe(), 24);
        due(read("FH../..../H.../....f"), 2);
        x.wipe();
        put("FH../..../H.../....f####");
        due(x.wipe(), 24);
        due(read("####/##../..H./..FHh"), 1);
    }

    void thePadIsEmptyThen() {
        read("FH../..../H.../....f");
        due(x.now(14), 0);
        due(x.fault(), 0);
        due(x.readPad(), BAD_TEXT);
        due(x.put('.'), 1);
    }

    void thePadStaysWhenItIsRefused() {
        for (String text : new String[] {"F", "FF../..../..../....h", "####/####/FHH./....h"}) {
            x = new BoardEnds();
            due(read(text) < 0 ? 1 : 0, 1);
            due(x.now(14), text.length());
            due(x.wipe(), text.length());
        }
    }

    void theSettingsStay() {
        x.set(FOX, 1);
        x.set(PASS, 1);
        read("FH../..../H.../....f");
        due(x.now(11), 1);
        due(x.now(12), 0);
        due(x.now(13), 1);
    }

    void itIsAChange() {
        x.block(9);
        read("FH#./..../H.../....f");
        due(x.now(15), 2);
        due(x.undo(), 1);
        stands(0, 5, 0, 15);
        due(x.now(10), 1 << 9);
    }

    void theSameBoardIsAChangeToo() {
        due(read("H.../.F../..../...Hh"), 9);
        due(x.now(15), 1);
    }

    void undoDoesNotFillThePad() {
        read("FH../..../H.../....f");
        x.undo();
        due(x.now(14), 0);
    }

    private void refusedWith(String text, int error) {
        Steps ready = x -> {
            x.wipe();
            Texts.put(x, text);
        };
        refused(ready, BoardEnds::readPad, error);
    }

    void aBadTextChangesNothing() {
        refusedWith("", BAD_TEXT);
        refusedWith("#FH#/.H../..../....", BAD_TEXT);
        refusedWith("#FH#/.H../..../....ff", BAD_TEXT);
    }

    void notOneFoxAndTwoHuntersChangeNothing() {
        refusedWith("..H#/.H../..../....f", NOT_POSSIBLE);
        refusedWith("FFH#/.H../..../....f", NOT_POSSIBLE);
        refusedWith("F.H#/..../..../....f", NOT_POSSIBLE);
        refusedWith("FHH#/.H../..../....f", NOT_POSSIBLE);
    }

    void tooManyChangeNothing() {
        refusedWith("####/###./..H./..FHh", TOO_MANY);
    }
}
