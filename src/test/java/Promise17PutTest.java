/** Promise 17, put: 1 to 8 characters, codes 33 to 126, a pad of 24 characters and no more. */
final class Promise17PutTest extends Cases {
    private static final String FULL = "123456789012345678901234";

    public static void main(String[] args) {
        run(Promise17PutTest.class);
    }

    private int puts(String text) {
        return x.put(Texts.number(text));
    }

    void noCharacterIsABadValue() {
        due(x.put(0), BAD_VALUE);
    }

    void oneCharacterIsTheLeast() {
        due(x.put('.'), 1);
    }

    void upTo8CharactersArePut() {
        String text = "";
        for (int length = 1; length <= 8; length++) {
            x = new BoardEnds();
            text = text + (char) ('a' + length);
            due(puts(text), length);
        }
    }

    void code32IsABadValue() {
        due(x.put(32), BAD_VALUE);
    }

    void code33IsTheLeast() {
        due(x.put(33), 1);
    }

    void code126IsTheGreatest() {
        due(x.put(126), 1);
    }

    void code127IsABadValue() {
        due(x.put(127), BAD_VALUE);
    }

    void codes128And255AreBadValues() {
        due(x.put(128), BAD_VALUE);
        due(x.put(161), BAD_VALUE);
        due(x.put(255), BAD_VALUE);
    }

    void codes1To31AreBadValues() {
        for (int code = 1; code < 32; code++) {
            due(x.put(code), BAD_VALUE);
        }
    }

    void everyOneOf8CharactersMayBeCode33Or126() {
        for (int at = 0; at < 8; at++) {
            x = new BoardEnds();
            due(x.put(with(at, 33)), 8);
            due(x.put(with(at, 126)), 16);
        }
    }

    void noOneOf8CharactersMayBeCode32Or127() {
        for (int at = 0; at < 8; at++) {
            due(x.put(with(at, 32)), BAD_VALUE);
            due(x.put(with(at, 127)), BAD_VALUE);
            due(x.put(with(at, 128)), BAD_VALUE);
        }
    }

    /** Eight characters, all "F" but for the one at an index, counted from the last one. */
    private static long with(int at, long code) {
        long number = Texts.number("FFFFFFFF");
        return number & ~(255L << 8 * at) | code << 8 * at;
    }

    void aGapIsABadValue() {
        for (int at = 0; at < 7; at++) {
            due(x.put(with(at, 0)), BAD_VALUE);
        }
    }

    void withoutTheFirstOf8ThereAre7() {
        due(x.put(with(7, 0)), 7);
    }

    void theLowest8BitsMustNotBe0() {
        due(x.put('F' << 8), BAD_VALUE);
        due(x.put((long) 'F' << 56), BAD_VALUE);
    }

    void oneBitAboveAGapIsABadValue() {
        for (int bit = 16; bit < 64; bit++) {
            due(x.put('F' | 1L << bit), BAD_VALUE);
        }
        for (int bit = 56; bit < 64; bit++) {
            due(x.put(Texts.number("FFFFFF") | 1L << bit), BAD_VALUE);
        }
    }

    void numbersBelow0AreBadValues() {
        due(x.put(-1), BAD_VALUE);
        due(x.put(Long.MIN_VALUE), BAD_VALUE);
        due(x.put(Long.MIN_VALUE | Texts.number("FFFFFFFF")), BAD_VALUE);
        due(x.put(Long.MIN_VALUE | Texts.number("FFFFFFF")), BAD_VALUE);
    }

    void theGreatestNumber() {
        due(x.put(Long.MAX_VALUE), BAD_VALUE);
        due(puts("~~~~~~~~"), 8);
    }

    void aPadOf24CharactersIsFull() {
        due(puts("12345678"), 8);
        due(puts("12345678"), 16);
        due(puts("12345678"), 24);
        due(x.now(14), 24);
    }

    void the24thCharacterAlone() {
        put(FULL.substring(1));
        due(x.now(14), 23);
        due(x.put('.'), 24);
    }

    void a25thCharacterIsTooMany() {
        put(FULL);
        due(x.put('.'), TOO_MANY);
        due(x.now(14), 24);
    }

    void eightCharactersBehind16AreAllowed() {
        put(FULL.substring(8));
        due(puts("12345678"), 24);
    }

    void eightCharactersBehind17AreTooMany() {
        put(FULL.substring(7));
        due(puts("12345678"), TOO_MANY);
        due(x.now(14), 17);
        due(puts("1234567"), 24);
    }

    void twoCharactersBehind23AreTooMany() {
        put(FULL.substring(1));
        due(puts("12"), TOO_MANY);
        due(x.now(14), 23);
        due(puts("1"), 24);
    }

    void badValueComesBeforeTooMany() {
        put(FULL);
        due(x.put(0), BAD_VALUE);
        due(x.put(32), BAD_VALUE);
        due(x.put(127), BAD_VALUE);
        due(x.put('F' << 8), BAD_VALUE);
        due(x.put(with(3, 0)), BAD_VALUE);
        due(x.put(with(7, 127)), BAD_VALUE);
    }

    void theLastCharacterIsInTheLowestBits() {
        due(x.put('F' << 8 | 'x'), 2);
        due(x.fault(), 1);
        x.wipe();
        due(x.put('x' << 8 | 'F'), 2);
        due(x.fault(), 0);
    }

    void theFirstOf8CharactersIsInTheHighestBits() {
        due(puts("x.../..."), 8);
        due(x.fault(), 0);
        x.wipe();
        due(puts("..../..x"), 8);
        due(x.fault(), 7);
    }

    void charactersAreAppended() {
        puts("..../");
        puts("...");
        puts("x");
        due(x.fault(), 8);
    }

    void afterAWipeItBeginsAgain() {
        put(FULL);
        x.wipe();
        due(x.put('.'), 1);
        due(x.fault(), 1);
    }

    void itIsNoChange() {
        x.put('.');
        due(x.now(15), 0);
        due(x.undo(), NOT_POSSIBLE);
        due(x.now(14), 1);
    }

    void noCharacterChangesNothing() {
        refused(x -> x.put(0), BAD_VALUE);
    }

    void aBadCodeChangesNothing() {
        refused(x -> x.put(32), BAD_VALUE);
        refused(x -> x.put(127), BAD_VALUE);
        refused(x -> x.put('F' << 8 | 127), BAD_VALUE);
        refused(x -> x.put(127 << 8 | 'F'), BAD_VALUE);
    }

    void aBitAboveAGapChangesNothing() {
        refused(x -> x.put('F' | 1L << 63), BAD_VALUE);
        refused(x -> x.put('F' << 16 | 'F'), BAD_VALUE);
    }

    void tooManyCharactersChangeNothing() {
        Steps most = x -> {
            x.wipe();
            Texts.put(x, FULL.substring(4));
        };
        refused(most, x -> x.put(Texts.number("..../")), TOO_MANY);
        Steps full = x -> {
            x.wipe();
            Texts.put(x, FULL);
        };
        refused(full, x -> x.put('.'), TOO_MANY);
    }

    void tooManyCharactersLeaveATextThatCanBeRead() {
        put("FH../..../H.../....f");
        due(puts("ffffffff"), TOO_MANY);
        due(x.readPad(), 2);
    }
}
