import java.util.ArrayList;
import java.util.List;
import java.util.TreeSet;
import java.util.stream.IntStream;

/** Promise 14, all: the range of what, and the boards where a count is least, greatest, or changes by one. */
final class Promise14AllTest extends Cases {
    private static final int ASKED_AT_MOST = 450;
    private static final int NO_SETTING = -1;

    public static void main(String[] args) {
        run(Promise14AllTest.class);
    }

    /** Everybody at the first places that stay free, and these places blocked. */
    private void blocks(int... places) {
        board(NO_SETTING, places).on(x);
        due(Integer.bitCount(x.now(10)), places.length);
    }

    private static Steps board(int setting, int... places) {
        int[] free = IntStream.range(0, 16).filter(p -> IntStream.of(places).noneMatch(b -> b == p)).toArray();
        return x -> {
            x.setUp(0, free[0], free[1], free[2]);
            for (int place : places) {
                x.block(place);
            }
            if (setting != NO_SETTING) {
                x.set(setting, 1);
            }
        };
    }

    /** The numbers of those positions that stand for others: each as what of() and folded() tell, gone through. */
    private List<Integer> standing(Steps board) {
        List<Integer> standing = new ArrayList<>();
        BoardEnds asked = made(board);
        int calls = 0;
        for (int number = 0; number < 4096; number++) {
            if (calls > ASKED_AT_MOST) {
                asked = made(board);
                calls = 0;
            }
            calls += 5;
            int who = asked.of(number, 0);
            if (who >= 0) {
                int fox = asked.of(number, 1);
                if (asked.folded(who, fox, asked.of(number, 2), asked.of(number, 3)) == number) {
                    standing.add(number);
                }
            }
        }
        return standing;
    }

    private static BoardEnds made(Steps board) {
        BoardEnds made = new BoardEnds();
        board.on(made);
        return made;
    }

    /** Which of these positions are exceptions: 0 or 1 for each. */
    private int[] exceptions(Steps board, List<Integer> standing) {
        int[] exceptions = new int[standing.size()];
        BoardEnds asked = made(board);
        for (int i = 0; i < exceptions.length; i++) {
            if (i % 200 == 199) {
                asked = made(board);
            }
            exceptions[i] = asked.of(standing.get(i), 4) == asked.of(standing.get(i), 5) ? 0 : 1;
        }
        return exceptions;
    }

    /** all(6) to all(9), counted again one exception at a time, and as they are written here. */
    private void exceptionsAre(Steps board, int exceptions, int runs, int blocks, int longest) {
        List<Integer> standing = standing(board);
        int[] at = exceptions(board, standing);
        TreeSet<Integer> seenBlocks = new TreeSet<>();
        int seen = 0;
        int seenRuns = 0;
        int seenLongest = 0;
        int run = 0;
        for (int i = 0; i < at.length; i++) {
            run = at[i] == 1 ? run + 1 : 0;
            seen += at[i];
            seenRuns += run == 1 ? 1 : 0;
            seenLongest = Math.max(seenLongest, run);
            if (at[i] == 1) {
                seenBlocks.add(standing.get(i) >> 6);
            }
        }
        BoardEnds asked = made(board);
        int[] due = {exceptions, runs, blocks, longest};
        int[] counted = {seen, seenRuns, seenBlocks.size(), seenLongest};
        for (int i = 0; i < 4; i++) {
            due(counted[i], due[i]);
            due(asked.all(6 + i), due[i]);
        }
        due(asked.all(1), at.length);
    }

    void whatMinus1IsABadValue() {
        due(x.all(-1), BAD_VALUE);
    }

    void what0IsTheFirst() {
        due(x.all(0), 3360);
    }

    void what10IsTheLast() {
        due(x.all(10), 40);
    }

    void what11IsABadValue() {
        due(x.all(11), BAD_VALUE);
    }

    void whatsFarOutAreBadValues() {
        for (int what : new int[] {LEAST, LEAST + 1, -16, -6, 12, 16, 256, MOST}) {
            due(x.all(what), BAD_VALUE);
        }
    }

    void mostPositionsAreOnAnEmptyBoard() {
        due(x.all(0), 2 * 16 * 105);
        blocks(0);
        due(x.all(0), 2 * 15 * 91);
    }

    void leastPositionsAreOnAFullBoard() {
        blocks(0, 1, 2, 3, 4, 5);
        due(x.all(0), 2 * 10 * 36);
    }

    void withoutSymmetriesAllStandForThemselves() {
        blocks(0, 1, 2, 4, 5, 7);
        due(x.all(2), 1);
        due(x.all(1), x.all(0));
    }

    void withEightSymmetriesTheFewestStandForOthers() {
        due(x.all(2), 8);
        due(x.all(1), 438);
    }

    void symmetriesOfEachKind() {
        int[][] blocked = {{}, {0}, {1}, {0, 15}, {0, 3}, {1, 7, 8, 14}, {5, 6, 9, 10}, {0, 3, 12, 15}, {1, 14}, {1, 4}};
        int[] symmetries = {8, 2, 1, 4, 2, 4, 8, 8, 2, 2};
        for (int i = 0; i < blocked.length; i++) {
            x = new BoardEnds();
            blocks(blocked[i]);
            due(x.all(2), symmetries[i]);
        }
    }

    void theGreatestDistanceOfAllBoardsIs28() {
        blocks(1, 6, 9);
        x.set(FOX, 1);
        due(x.all(3), 28);
        due(x.all(4), 2048 + 29);
        due(x.withDistance(28), 11);
        due(x.withDistance(29), 0);
    }

    void theLowestOfSeveralNumbersWithTheGreatestDistance() {
        int lowest = x.all(4);
        due(lowest, 2048 + 49);
        due(x.of(lowest, 4), x.all(3));
        for (int number = 15; number < lowest; number += 17) {
            due(x.of(number, 4) < 10 ? 1 : 0, 1);
        }
    }

    void theGreatestDistanceIsThereEvenWhereMostHaveNone() {
        blocks(1, 3, 4, 6, 9, 11);
        due(x.all(3) >= 0 ? 1 : 0, 1);
        due(x.of(x.all(4), 4), x.all(3));
    }

    void noPositionIsWithoutADistanceOnTheEmptyBoard() {
        due(x.all(5), 0);
    }

    void positionsWithoutADistanceAreCounted() {
        blocks(2, 4, 5);
        due(x.all(5) > 0 ? 1 : 0, 1);
        due(x.all(5), x.withDistance(NONE));
    }

    void fewExceptionsEachARunOfItsOwn() {
        exceptionsAre(board(FOX, 2, 5, 7, 8, 10, 13), 12, 12, 6, 1);
    }

    void exceptionsOfTheEmptyBoard() {
        exceptionsAre(board(NO_SETTING), 205, 97, 12, 9);
    }

    void theLongestRunIsTheLastOne() {
        exceptionsAre(board(HUNT, 2, 6, 7, 8, 9, 13), 53, 23, 14, 9);
    }

    void aRunAtTheFirstPosition() {
        exceptionsAre(board(FOX, 0, 2, 5, 8, 10, 15), 52, 20, 10, 8);
    }

    void theLongestRunGoesOnFromTheHuntersToTheFox() {
        exceptionsAre(board(HUNT, 0, 3, 5, 10, 12, 15), 57, 26, 10, 10);
    }

    void theLongestRunGoesOnFromBlockToBlock() {
        exceptionsAre(board(NO_SETTING, 2, 5, 7, 8, 10, 13), 46, 20, 9, 10);
    }

    void exceptionsAtTheEdgesOfBlocks() {
        exceptionsAre(board(HUNT, 2, 3, 7, 8, 12, 13), 36, 22, 12, 5);
    }

    void theKeysThatSomePositionHas() {
        int keys = 0;
        for (int key = 0; key < 98; key++) {
            keys += x.rule(key) != NO_SUCH ? 1 : 0;
        }
        due(x.all(10), keys);
        due(keys, 40);
    }

    void aKeyMoreOrLessWithBlockedPlaces() {
        blocks(0, 3, 12, 15);
        int keys = 0;
        for (int key = 0; key < 98; key++) {
            keys += x.rule(key) != NO_SUCH ? 1 : 0;
        }
        due(x.all(10), keys);
        due(keys < 40 ? 1 : 0, 1);
    }

    void askingChangesNothing() {
        leavesAll(x -> x.all(0), 3360);
        leavesAll(x -> x.all(10), 40);
    }

    void aBadValueChangesNothing() {
        refused(x -> x.all(-1), BAD_VALUE);
        refused(x -> x.all(11), BAD_VALUE);
    }
}
