/** Promise 16, rule: keys 0 to 97, keys that nobody has, and what is told when two distances are as common. */
final class Promise16RuleTest extends Cases {
    public static void main(String[] args) {
        run(Promise16RuleTest.class);
    }

    private void blocks(int... places) {
        x.setUp(0, 13, 14, 15);
        for (int place : places) {
            x.block(place);
        }
        due(Integer.bitCount(x.now(10)), places.length);
    }

    void keyMinus1IsABadValue() {
        due(x.rule(-1), BAD_VALUE);
    }

    void key0IsTheFirst() {
        due(x.rule(0), NO_SUCH);
    }

    void key97IsTheLast() {
        due(x.rule(97), NO_SUCH);
    }

    void key98IsABadValue() {
        due(x.rule(98), BAD_VALUE);
    }

    void keysFarOutAreBadValues() {
        for (int key : new int[] {LEAST, LEAST + 8, -90, -6, 99, 106, 264, MOST}) {
            due(x.rule(key), BAD_VALUE);
        }
    }

    void theLeastKeyThatAPositionHas() {
        due(x.rule(8), 1);
        for (int key = 0; key < 8; key++) {
            due(x.rule(key), NO_SUCH);
        }
    }

    void theGreatestKeyOfTheHuntersThatAPositionHas() {
        due(x.rule(41), x.distance(0, 0, 11, 15));
        for (int key = 42; key < 57; key++) {
            due(x.rule(key), NO_SUCH);
        }
    }

    void theLeastKeyOfTheFoxThatAPositionHas() {
        due(x.rule(57), 6);
        due(x.rule(56), NO_SUCH);
    }

    void theGreatestKeyThatAPositionHas() {
        due(x.rule(90), x.distance(1, 0, 11, 15));
        for (int key = 91; key < 98; key++) {
            due(x.rule(key), NO_SUCH);
        }
    }

    void theLesserOneComesFirst() {
        due(x.rule(7 + 2), 1);
        due(x.rule(7 * 2 + 1), NO_SUCH);
        due(x.rule(49 + 7 * 2 + 1), NO_SUCH);
    }

    void aKeyThatOnlyBlockedPlacesHad() {
        due(x.rule(41) >= 0 ? 1 : 0, 1);
        x.setUp(0, 5, 6, 9);
        x.block(0);
        x.block(3);
        x.block(12);
        x.block(15);
        due(x.rule(41), NO_SUCH);
        due(x.rule(90), NO_SUCH);
    }

    void theCommonestDistanceIsTold() {
        blocks(1, 2);
        due(x.of(2112, 4), 0);
        due(x.of(3630, 4), 8);
        due(x.of(3635, 4), 8);
        due(x.rule(62), 8);
    }

    void ofTwoAsCommonTheLeastThatComesLater() {
        blocks(0);
        due(x.of(409, 4), 9);
        due(x.of(464, 4), 3);
        due(x.of(494, 4), 7);
        due(x.rule(20), 3);
    }

    void ofTwoAsCommonTheLeastThatComesFirst() {
        blocks(12);
        due(x.of(2076, 4), 6);
        due(x.of(2112, 4), 8);
        due(x.rule(62), 6);
    }

    void noneComesBehindADistanceThatIsAsCommon() {
        blocks(0, 2, 5);
        due(x.of(2528, 4), 10);
        due(x.of(3985, 4), NONE);
        due(x.rule(89), 10);
    }

    void noneComesBehindADistanceThatIsAsCommonAndComesLater() {
        blocks(2, 4, 5);
        due(x.of(112, 4), NONE);
        due(x.of(480, 4), 7);
        due(x.rule(40), 7);
    }

    void noneIsToldIfItIsTheCommonest() {
        blocks(2, 5, 8);
        due(x.of(113, 4), NONE);
        due(x.of(498, 4), 7);
        due(x.of(1920, 4), NONE);
        due(x.rule(41), NONE);
    }

    void noneIsToldIfNobodyHasADistance() {
        blocks(1, 3, 4);
        due(x.of(3978, 4), NONE);
        due(x.of(3981, 4), NONE);
        due(x.rule(62), NONE);
    }

    void onlyPositionsThatStandForOthersCount() {
        due(x.of(41, 4), 9);
        due(x.of(41, 6), 8);
        due(x.of(74, 4), 3);
        due(x.of(74, 6), 4);
        due(x.rule(20), 3);
    }

    void askingChangesNothing() {
        leavesAll(x -> x.rule(0), NO_SUCH);
        leavesAll(x -> x.rule(57), 6);
    }

    void aBadValueChangesNothing() {
        refused(x -> x.rule(-1), BAD_VALUE);
        refused(x -> x.rule(98), BAD_VALUE);
    }

    void noSuchKeyChangesNothing() {
        refused(x -> x.rule(0), NO_SUCH);
        refused(x -> x.rule(97), NO_SUCH);
    }
}
