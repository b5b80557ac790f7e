/** Promise 15, withDistance: 0 to 200, or NONE, and nothing between or beyond them. */
final class Promise15WithDistanceTest extends Cases {
    public static void main(String[] args) {
        run(Promise15WithDistanceTest.class);
    }

    void distance0IsTheLeast() {
        due(x.withDistance(0), 1);
    }

    void distance200IsTheGreatest() {
        due(x.withDistance(200), 0);
    }

    void distance201IsABadValue() {
        due(x.withDistance(201), BAD_VALUE);
    }

    void minus1IsABadValue() {
        due(x.withDistance(-1), BAD_VALUE);
    }

    void noneIsAllowed() {
        due(x.withDistance(NONE), 0);
    }

    void minus5BesideNoneIsABadValue() {
        due(x.withDistance(-5), BAD_VALUE);
    }

    void minus7BesideNoneIsABadValue() {
        due(x.withDistance(-7), BAD_VALUE);
    }

    void theOtherErrorCodesAreBadValues() {
        for (int code = -4; code < 0; code++) {
            due(x.withDistance(code), BAD_VALUE);
        }
    }

    void distancesFarOutAreBadValues() {
        for (int distance : new int[] {LEAST, LEAST + 1, -256, 202, 256, 257, MOST}) {
            due(x.withDistance(distance), BAD_VALUE);
        }
    }

    void onlyThoseThatStandForOthersCount() {
        due(x.withDistance(0), 1);
        // Without a symmetry: the fox at 0, a hunter at 4, the other one anywhere; the fox at 2, 3, 12 or 15.
        x.block(1);
        int caught = 0;
        for (int number = 2048; number < 2048 + 128; number++) {
            caught += x.of(number, 4) == 0 ? 1 : 0;
        }
        due(caught, 13);
        due(x.withDistance(0), 13 + 4);
    }

    void theGreatestDistanceAndTheOneBehindIt() {
        due(x.withDistance(10) > 0 ? 1 : 0, 1);
        due(x.withDistance(11), 0);
    }

    void distancesThatNoPositionHas() {
        for (int distance = 29; distance <= 200; distance++) {
            due(x.withDistance(distance), 0);
        }
    }

    void noneIsNotCountedAsADistance() {
        read("F.#./##../..../..HHh");
        int sum = 0;
        for (int distance = 0; distance <= 200; distance++) {
            sum += x.withDistance(distance);
        }
        due(sum + x.withDistance(NONE), x.all(1));
        due(x.withDistance(NONE), x.all(5));
        due(x.withDistance(NONE) > 0 ? 1 : 0, 1);
    }

    void distances63And64HaveNobody() {
        read("F.#./##../..../..HHh");
        due(x.withDistance(62), 0);
        due(x.withDistance(63), 0);
        due(x.withDistance(64), 0);
    }

    void askingChangesNothing() {
        leavesAll(x -> x.withDistance(1), 79);
        leavesAll(x -> x.withDistance(NONE), 0);
    }

    void aBadValueChangesNothing() {
        refused(x -> x.withDistance(-1), BAD_VALUE);
        refused(x -> x.withDistance(-7), BAD_VALUE);
        refused(x -> x.withDistance(201), BAD_VALUE);
    }
}
