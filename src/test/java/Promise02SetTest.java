/** Promise 2, set: the ranges of the setting and the value, each of its errors, and that it is a change. */
final class Promise02SetTest extends Cases {
    public static void main(String[] args) {
        run(Promise02SetTest.class);
    }

    void settingMinus1IsABadValue() {
        due(x.set(-1, 0), BAD_VALUE);
        due(x.set(-1, 1), BAD_VALUE);
    }

    void setting0IsTheFirst() {
        due(x.set(0, 1), 0);
        due(x.now(11), 1);
    }

    void setting1IsTheSecond() {
        due(x.set(1, 1), 0);
        due(x.now(12), 1);
    }

    void setting2IsTheLast() {
        due(x.set(2, 1), 0);
        due(x.now(13), 1);
    }

    void setting3IsABadValue() {
        due(x.set(3, 0), BAD_VALUE);
        due(x.set(3, 1), BAD_VALUE);
    }

    void settingsFarOutAreBadValues() {
        for (int setting : new int[] {LEAST, LEAST + 2, -32, 32, 33, 64, 256, MOST}) {
            due(x.set(setting, 1), BAD_VALUE);
        }
    }

    void valueMinus1IsABadValue() {
        for (int setting = 0; setting < 3; setting++) {
            due(x.set(setting, -1), BAD_VALUE);
        }
    }

    void value0IsTheLeast() {
        for (int setting = 0; setting < 3; setting++) {
            due(x.set(setting, 0), 0);
            due(x.now(11 + setting), 0);
        }
    }

    void value1IsTheGreatest() {
        for (int setting = 0; setting < 3; setting++) {
            due(x.set(setting, 1), 0);
            due(x.now(11 + setting), 1);
        }
    }

    void value2IsABadValue() {
        for (int setting = 0; setting < 3; setting++) {
            due(x.set(setting, 2), BAD_VALUE);
        }
    }

    void valuesFarOutAreBadValues() {
        for (int value : new int[] {LEAST, LEAST + 1, -2, 3, 256, 257, MOST}) {
            due(x.set(1, value), BAD_VALUE);
        }
    }

    void bothOutOfRangeAreABadValue() {
        due(x.set(-1, -1), BAD_VALUE);
        due(x.set(3, 2), BAD_VALUE);
    }

    void thePreviousValueIsReturned() {
        for (int setting = 0; setting < 3; setting++) {
            due(x.set(setting, 1), 0);
            due(x.set(setting, 1), 1);
            due(x.set(setting, 0), 1);
            due(x.set(setting, 0), 0);
        }
    }

    void theOtherSettingsStay() {
        for (int setting = 0; setting < 3; setting++) {
            x.set(setting, 1);
            for (int other = 0; other < 3; other++) {
                due(x.now(11 + other), other == setting ? 1 : 0);
            }
            x.set(setting, 0);
        }
    }

    void itIsAChange() {
        x.set(FOX, 1);
        due(x.now(15), 1);
        due(x.undo(), 0);
        due(x.now(11), 0);
    }

    void theSameValueIsAChangeToo() {
        x.set(FOX, 0);
        due(x.now(15), 1);
        x.set(FOX, 0);
        due(x.now(15), 2);
    }

    void aSettingBelowTheFirstChangesNothing() {
        refused(x -> x.set(-1, 1), BAD_VALUE);
    }

    void aSettingBehindTheLastChangesNothing() {
        refused(x -> x.set(3, 1), BAD_VALUE);
    }

    void aValueBelow0ChangesNothing() {
        refused(x -> x.set(FOX, -1), BAD_VALUE);
        refused(x -> x.set(PASS, -1), BAD_VALUE);
    }

    void aValueAbove1ChangesNothing() {
        refused(x -> x.set(FOX, 2), BAD_VALUE);
        refused(x -> x.set(HUNT, 2), BAD_VALUE);
        refused(x -> x.set(PASS, 2), BAD_VALUE);
    }
}
