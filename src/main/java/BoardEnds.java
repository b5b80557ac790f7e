import java.util.Arrays;

/** Ends of a small board game, worked out backwards: two hunters who catch a fox on a board of four by four. */
public final class BoardEnds {
    public static final int NO_SUCH = -1, BAD_VALUE = -2, BAD_TEXT = -3, TOO_MANY = -4, NOT_POSSIBLE = -5, NONE = -6;
    public static final int FOX = 0, HUNT = 1, PASS = 2;

    private static final int MOST_BLOCKED = 6;
    private static final int LONGEST_LINE = 60;
    private static final int GREATEST_ASKED = 200;
    private static final int SLOTS = 2;

    private final Grid grid;
    private final Ends ends;
    private final Folding folding;
    private final Survey survey;
    private final Game game;
    private final State state;
    private final State ahead;
    private final History history;
    private final Pad pad;
    private final State[] slots;
    private final boolean[] saved;

    public BoardEnds() {
        grid = new Grid();
        ends = new Ends(grid);
        folding = new Folding(grid);
        survey = new Survey(grid, ends, folding);
        game = new Game(grid, ends);
        state = new State();
        ahead = new State();
        history = new History();
        pad = new Pad();
        slots = new State[SLOTS];
        for (int slot = 0; slot < SLOTS; slot++) {
            slots[slot] = new State();
        }
        saved = new boolean[SLOTS];
        state.place(0, 5, 0, 15);
    }

    // ---- changes

    public int set(int setting, int value) {
        if (setting < FOX || setting > PASS || value < 0 || value > 1) {
            return BAD_VALUE;
        }
        history.record(state);
        int previous = state.setting(setting);
        state.change(setting, value);
        return previous;
    }

    public int block(int place) {
        if (!Grid.isPlace(place)) {
            return NO_SUCH;
        }
        int bit = 1 << place;
        boolean blocks = (state.blocked & bit) == 0;
        if (blocks && Integer.bitCount(state.blocked) >= MOST_BLOCKED) {
            return TOO_MANY;
        }
        if ((state.taken() & bit) != 0) {
            return NOT_POSSIBLE;
        }
        history.record(state);
        state.blocked ^= bit;
        return Integer.bitCount(state.blocked);
    }

    public int setUp(int who, int fox, int one, int other) {
        int error = errorOf(who, fox, one, other);
        if (error != 0) {
            return error;
        }
        history.record(state);
        state.place(who, fox, one, other);
        return distanceNow();
    }

    public int move(int from, int to) {
        if (!Grid.isPlace(from) || !Grid.isPlace(to)) {
            return NO_SUCH;
        }
        if (!game.allows(state, from, to)) {
            return NOT_POSSIBLE;
        }
        return makeMove(from, to);
    }

    public int play() {
        int best = game.bestMove(state);
        if (best == NONE) {
            return NOT_POSSIBLE;
        }
        return makeMove(Game.fromOf(best), Game.toOf(best));
    }

    public int readPad() {
        if (pad.firstFault() != NONE) {
            return BAD_TEXT;
        }
        int foxes = pad.placesOf('F');
        int hunters = pad.placesOf('H');
        int blocked = pad.placesOf('#');
        if (Integer.bitCount(foxes) != 1 || Integer.bitCount(hunters) != 2) {
            return NOT_POSSIBLE;
        }
        if (Integer.bitCount(blocked) > MOST_BLOCKED) {
            return TOO_MANY;
        }
        history.record(state);
        state.blocked = blocked;
        state.place(pad.foxMoves() ? 1 : 0, Grid.lowest(foxes), Grid.lowest(hunters), Grid.highest(hunters));
        pad.empty();
        return distanceNow();
    }

    // ---- the position

    public int now(int what) {
        if (what < 0 || what > 15) {
            return BAD_VALUE;
        }
        switch (what) {
            case 0:
                return state.who;
            case 1:
                return state.fox;
            case 2:
                return state.low;
            case 3:
                return state.high;
            case 4:
                return game.caught(state) ? 1 : 0;
            case 5:
                return distanceNow();
            case 6:
                return Game.fromOf(game.bestMove(state));
            case 7:
                return Game.toOf(game.bestMove(state));
            case 8:
                return state.hunterOnFox() ? NONE : numberNow(state);
            case 9:
                return state.hunterOnFox() ? NONE : foldedNumber(numberNow(state));
            case 10:
                return state.blocked;
            case 14:
                return pad.length();
            case 15:
                return history.length();
            default:
                return state.setting(what - 11);
        }
    }

    // ---- all positions; nothing changes

    public int distance(int who, int fox, int one, int other) {
        int error = errorOf(who, fox, one, other);
        if (error != 0) {
            return error;
        }
        ends.prepare(state);
        return ends.at(grid.numberOf(who, fox, one, other));
    }

    public int number(int who, int fox, int one, int other) {
        int error = errorOf(who, fox, one, other);
        return error != 0 ? error : grid.numberOf(who, fox, one, other);
    }

    public int folded(int who, int fox, int one, int other) {
        int error = errorOf(who, fox, one, other);
        return error != 0 ? error : foldedNumber(grid.numberOf(who, fox, one, other));
    }

    public int of(int number, int what) {
        if (number < 0 || number >= Grid.NUMBERS || what < 0 || what > 6) {
            return BAD_VALUE;
        }
        if (!grid.isPosition(number, state.blocked)) {
            return NO_SUCH;
        }
        switch (what) {
            case 0:
                return Grid.whoOf(number);
            case 1:
                return Grid.foxOf(number);
            case 2:
                return grid.lowerOf(Grid.pairIn(number));
            case 3:
                return grid.higherOf(Grid.pairIn(number));
            case 4:
                ends.prepare(state);
                return ends.at(number);
            case 5:
                survey.prepare(state);
                return survey.told(grid.keyOf(number));
            default:
                folding.prepare(state.blocked);
                return folding.alike(number);
        }
    }

    public int line(int moves) {
        if (moves < 1 || moves > LONGEST_LINE) {
            return BAD_VALUE;
        }
        ahead.take(state);
        for (int made = 0; made < moves; made++) {
            int best = game.bestMove(ahead);
            if (best == NONE) {
                return NONE;
            }
            game.make(ahead, Game.fromOf(best), Game.toOf(best));
        }
        return game.caught(ahead) ? NONE : numberNow(ahead);
    }

    public int all(int what) {
        if (what < 0 || what >= Survey.TOTALS) {
            return BAD_VALUE;
        }
        survey.prepare(state);
        return survey.total(what);
    }

    public int withDistance(int distance) {
        if (distance != NONE && (distance < 0 || distance > GREATEST_ASKED)) {
            return BAD_VALUE;
        }
        survey.prepare(state);
        return survey.countWith(distance);
    }

    public int rule(int key) {
        if (key < 0 || key >= Grid.KEYS) {
            return BAD_VALUE;
        }
        survey.prepare(state);
        return survey.told(key);
    }

    // ---- texts

    public int put(long characters) {
        int count = Pad.countIn(characters);
        if (count < 1) {
            return BAD_VALUE;
        }
        if (pad.length() + count > Pad.ROOM) {
            return TOO_MANY;
        }
        pad.append(characters, count);
        return pad.length();
    }

    public int wipe() {
        int length = pad.length();
        pad.empty();
        return length;
    }

    public int fault() {
        return pad.firstFault();
    }

    // ---- undo, saving

    public int undo() {
        if (history.length() == 0) {
            return NOT_POSSIBLE;
        }
        history.takeBack(state);
        return history.length();
    }

    public int save(int slot) {
        if (slot < 0 || slot >= SLOTS) {
            return BAD_VALUE;
        }
        slots[slot].take(state);
        saved[slot] = true;
        return Integer.bitCount(state.blocked);
    }

    public int restore(int slot) {
        if (slot < 0 || slot >= SLOTS) {
            return BAD_VALUE;
        }
        if (!saved[slot]) {
            return NOT_POSSIBLE;
        }
        history.record(state);
        state.take(slots[slot]);
        return Integer.bitCount(state.blocked);
    }

    // ---- shared by several calls

    /** The error that setUp() and its like name for a position, or 0. */
    private int errorOf(int who, int fox, int one, int other) {
        if (!Grid.isPlace(fox) || !Grid.isPlace(one) || !Grid.isPlace(other)) {
            return NO_SUCH;
        }
        int places = 1 << fox | 1 << one | 1 << other;
        boolean unlike = Integer.bitCount(places) == 3;
        boolean good = (who == 0 || who == 1) && unlike && (places & state.blocked) == 0;
        return good ? 0 : BAD_VALUE;
    }

    private int makeMove(int from, int to) {
        history.record(state);
        game.make(state, from, to);
        return game.caught(state) ? 1 : 0;
    }

    private int distanceNow() {
        if (game.caught(state)) {
            return 0;
        }
        ends.prepare(state);
        return ends.at(numberNow(state));
    }

    private int numberNow(State position) {
        return grid.numberOf(position.who, position.fox, position.low, position.high);
    }

    private int foldedNumber(int number) {
        folding.prepare(state.blocked);
        return folding.lowestAlike(number);
    }

    /** What never changes: who is next to whom, the numbers of pairs and positions, the turns of the board. */
    private static final class Grid {
        static final int PLACES = 16;
        static final int ALL_PLACES = 0xFFFF;
        static final int PAIRS = 120;
        static final int NUMBERS = 4096;
        static final int TURNS = 8;
        static final int KEYS = 98;

        private final int[] straight;
        private final int[] corner;
        private final int[] pairs;
        private final int[] lowers;
        private final int[] highers;
        private final int[] places;
        private final int[] images;

        Grid() {
            straight = new int[PLACES];
            corner = new int[PLACES];
            pairs = new int[PLACES * PLACES];
            // Numbers hold a pair in seven bits, so there is a row for the eight that are no pair, too.
            lowers = new int[128];
            highers = new int[128];
            places = new int[128];
            images = new int[TURNS * PLACES];
            fillSteps();
            fillPairs();
            fillImages();
        }

        private void fillSteps() {
            for (int from = 0; from < PLACES; from++) {
                for (int to = 0; to < PLACES; to++) {
                    int far = far(from, to);
                    if (far == 1) {
                        straight[from] |= 1 << to;
                    } else if (far == 2 && from / 4 != to / 4 && from % 4 != to % 4) {
                        corner[from] |= 1 << to;
                    }
                }
            }
        }

        private void fillPairs() {
            int pair = 0;
            for (int low = 0; low < PLACES; low++) {
                for (int high = low + 1; high < PLACES; high++) {
                    pairs[low * PLACES + high] = pair;
                    pairs[high * PLACES + low] = pair;
                    lowers[pair & 127] = low;
                    highers[pair & 127] = high;
                    places[pair & 127] = 1 << low | 1 << high;
                    pair++;
                }
            }
        }

        private void fillImages() {
            for (int turn = 0; turn < TURNS; turn++) {
                for (int place = 0; place < PLACES; place++) {
                    int row = (turn & 1) == 0 ? place / 4 : 3 - place / 4;
                    int column = (turn & 2) == 0 ? place % 4 : 3 - place % 4;
                    images[turn * PLACES + place] = (turn & 4) == 0 ? 4 * row + column : 4 * column + row;
                }
            }
        }

        static boolean isPlace(int place) {
            return place >= 0 && place < PLACES;
        }

        static int lowest(int places) {
            for (int place = 0; place < PLACES; place++) {
                if ((places >> place & 1) != 0) {
                    return place;
                }
            }
            return 0;
        }

        static int highest(int places) {
            for (int place = PLACES - 1; place > 0; place--) {
                if ((places >> place & 1) != 0) {
                    return place;
                }
            }
            return 0;
        }

        /** Rows and columns between two places, added. */
        static int far(int one, int other) {
            return Math.abs(one / 4 - other / 4) + Math.abs(one % 4 - other % 4);
        }

        /** The places one step away, blocked or not. */
        int stepsFrom(int place, boolean acrossCorners) {
            int from = place & 15;
            return acrossCorners ? straight[from] | corner[from] : straight[from];
        }

        int pairOf(int one, int other) {
            return pairs[(one & 15) * PLACES + (other & 15)];
        }

        int lowerOf(int pair) {
            return lowers[pair & 127];
        }

        int higherOf(int pair) {
            return highers[pair & 127];
        }

        /** The two places of a pair, as a set. */
        int placesOf(int pair) {
            return places[pair & 127];
        }

        int image(int turn, int place) {
            return images[(turn & 7) * PLACES + (place & 15)];
        }

        int numberOf(int who, int fox, int one, int other) {
            return 2048 * who + 128 * fox + pairOf(one, other);
        }

        static int whoOf(int number) {
            return number >> 11 & 1;
        }

        static int foxOf(int number) {
            return number >> 7 & 15;
        }

        static int pairIn(int number) {
            return number & 127;
        }

        boolean isPosition(int number, int blocked) {
            int pair = pairIn(number);
            int fox = 1 << foxOf(number);
            int hunters = placesOf(pair);
            return pair < PAIRS && (fox & hunters) == 0 && ((fox | hunters) & blocked) == 0;
        }

        int keyOf(int number) {
            int fox = foxOf(number);
            int pair = pairIn(number);
            int one = far(fox, lowerOf(pair));
            int other = far(fox, higherOf(pair));
            return 49 * whoOf(number) + 7 * Math.min(one, other) + Math.max(one, other);
        }
    }

    /** What undo brings back and a slot keeps. */
    private static final class State {
        int settings;
        int blocked;
        int who;
        int fox;
        int low;
        int high;

        void take(State other) {
            settings = other.settings;
            blocked = other.blocked;
            who = other.who;
            fox = other.fox;
            low = other.low;
            high = other.high;
        }

        void place(int newWho, int newFox, int one, int other) {
            who = newWho;
            fox = newFox;
            low = Math.min(one, other);
            high = Math.max(one, other);
        }

        int setting(int which) {
            return settings >> which & 1;
        }

        void change(int which, int value) {
            settings = settings & ~(1 << which) | value << which;
        }

        int hunters() {
            return 1 << low | 1 << high;
        }

        int taken() {
            return hunters() | 1 << fox;
        }

        boolean hunterOnFox() {
            return fox == low || fox == high;
        }
    }

    /**
     * The distances of all positions, for the blocked places and settings that were prepared last. They are found
     * level by level: for each pair of hunters the places of the fox whose distance is known are a bit mask.
     */
    private static final class Ends {
        private final Grid grid;
        private final int[] distances;
        private final int[] foxKnown;
        private final int[] huntersKnown;
        private int prepared;
        private int free;
        private boolean foxCorners;
        private boolean huntCorners;
        private boolean mayStay;

        Ends(Grid grid) {
            this.grid = grid;
            distances = new int[Grid.NUMBERS];
            foxKnown = new int[Grid.PAIRS];
            huntersKnown = new int[Grid.PAIRS];
            prepared = -1;
        }

        /** Tells blocked places and settings apart from all others. */
        static int signOf(State state) {
            return state.settings << 16 | state.blocked;
        }

        int at(int number) {
            return number >= 0 && number < Grid.NUMBERS ? distances[number] : NONE;
        }

        void prepare(State state) {
            if (prepared == signOf(state)) {
                return;
            }
            prepared = signOf(state);
            free = Grid.ALL_PLACES & ~state.blocked;
            foxCorners = state.setting(FOX) == 1;
            huntCorners = state.setting(HUNT) == 1;
            mayStay = state.setting(PASS) == 1;
            workOut();
        }

        private void workOut() {
            Arrays.fill(distances, NONE);
            Arrays.fill(foxKnown, 0);
            Arrays.fill(huntersKnown, 0);
            boolean more = true;
            for (int level = 0; more && level < Grid.NUMBERS; level += 2) {
                int found = 0;
                for (int pair = 0; pair < Grid.PAIRS; pair++) {
                    found |= foxLevel(pair, level);
                }
                for (int pair = 0; pair < Grid.PAIRS; pair++) {
                    found |= huntersLevel(pair, level + 1);
                }
                more = found != 0;
            }
        }

        /** The places where the fox can be if the hunters are at this pair of places. */
        private int placesForFox(int pair) {
            int hunters = grid.placesOf(pair);
            return (hunters & free) == hunters ? free & ~hunters : 0;
        }

        /** Finds the fox's positions with this pair whose moves have all become known by now. */
        private int foxLevel(int pair, int level) {
            int open = placesForFox(pair) & ~foxKnown[pair];
            int escapes = placesForFox(pair) & ~huntersKnown[pair];
            int found = 0;
            for (int fox = 0; fox < Grid.PLACES; fox++) {
                if ((open >> fox & 1) != 0 && (grid.stepsFrom(fox, foxCorners) & escapes) == 0) {
                    found |= 1 << fox;
                }
            }
            foxKnown[pair] |= found;
            keep(found, 1, pair, level);
            return found;
        }

        /** Finds the hunters' positions with this pair that have a catch, or a move to a known position. */
        private int huntersLevel(int pair, int level) {
            int open = placesForFox(pair) & ~huntersKnown[pair];
            if (open == 0) {
                return 0;
            }
            int low = grid.lowerOf(pair);
            int high = grid.higherOf(pair);
            int reached = reachedBy(low, high) | reachedBy(high, low);
            if (mayStay) {
                reached |= foxKnown[pair];
            }
            int found = open & reached;
            huntersKnown[pair] |= found;
            keep(found, 0, pair, level);
            return found;
        }

        /** The places of the fox against which a step of one hunter is a catch, or leads to a known position. */
        private int reachedBy(int from, int other) {
            int steps = grid.stepsFrom(from, huntCorners) & free & ~(1 << other);
            int reached = steps;
            for (int to = 0; to < Grid.PLACES; to++) {
                if ((steps >> to & 1) != 0) {
                    reached |= knownWith(grid.pairOf(to, other));
                }
            }
            return reached;
        }

        /** The places of the fox that are known by now if it moves, and the hunters are at this pair of places. */
        private int knownWith(int pair) {
            return pair >= 0 && pair < Grid.PAIRS ? foxKnown[pair] : 0;
        }

        private void keep(int foxes, int who, int pair, int level) {
            if (foxes == 0) {
                return;
            }
            for (int fox = 0; fox < Grid.PLACES; fox++) {
                if ((foxes >> fox & 1) != 0) {
                    distances[(2048 * who + 128 * fox + pair) & (Grid.NUMBERS - 1)] = level;
                }
            }
        }
    }

    /** The symmetries of the blocked places that were prepared last. */
    private static final class Folding {
        private final Grid grid;
        // The turns that keep the blocked places, without turn 0, which changes nothing.
        private final int[] kept;
        private int keptCount;
        private int prepared;

        Folding(Grid grid) {
            this.grid = grid;
            kept = new int[Grid.TURNS];
            prepared = -1;
        }

        void prepare(int blocked) {
            if (prepared == blocked) {
                return;
            }
            prepared = blocked;
            keptCount = 0;
            for (int turn = 1; turn < Grid.TURNS; turn++) {
                if (imageOf(turn, blocked) == blocked) {
                    kept[keptCount & 7] = turn;
                    keptCount++;
                }
            }
        }

        private int imageOf(int turn, int places) {
            int images = 0;
            for (int place = 0; place < Grid.PLACES; place++) {
                if ((places >> place & 1) != 0) {
                    images |= 1 << grid.image(turn, place);
                }
            }
            return images;
        }

        int symmetries() {
            return keptCount + 1;
        }

        private int imageOfNumber(int turn, int number) {
            int pair = Grid.pairIn(number);
            int fox = grid.image(turn, Grid.foxOf(number));
            int one = grid.image(turn, grid.lowerOf(pair));
            int other = grid.image(turn, grid.higherOf(pair));
            return grid.numberOf(Grid.whoOf(number), fox, one, other);
        }

        int lowestAlike(int number) {
            int lowest = number;
            for (int i = 0; i < keptCount && i < kept.length; i++) {
                lowest = Math.min(lowest, imageOfNumber(kept[i], number));
            }
            return lowest;
        }

        boolean standsForItself(int number) {
            for (int i = 0; i < keptCount && i < kept.length; i++) {
                if (imageOfNumber(kept[i], number) < number) {
                    return false;
                }
            }
            return true;
        }

        /** How many positions are alike: each of them is the image by equally many symmetries. */
        int alike(int number) {
            int unmoved = 1;
            for (int i = 0; i < keptCount && i < kept.length; i++) {
                if (imageOfNumber(kept[i], number) == number) {
                    unmoved++;
                }
            }
            return unmoved > 0 ? symmetries() / unmoved : 1;
        }
    }

    /** The rule, its exceptions and the other counts over all positions. */
    private static final class Survey {
        static final int TOTALS = 11;

        private static final int POSITIONS = 0;
        private static final int STANDING = 1;
        private static final int SYMMETRIES = 2;
        private static final int GREATEST = 3;
        private static final int FIRST_GREATEST = 4;
        private static final int ENDLESS = 5;
        private static final int EXCEPTIONS = 6;
        private static final int RUNS = 7;
        private static final int BLOCKS = 8;
        private static final int LONGEST_RUN = 9;
        private static final int USED_KEYS = 10;

        // No board has a distance above 28 (all of them were gone through). The last column is for none.
        private static final int COLUMNS = 64;
        private static final int LAST = COLUMNS - 1;

        private final Grid grid;
        private final Ends ends;
        private final Folding folding;
        private final int[] totals;
        private final int[] standing;
        private final int[] counts;
        private final int[] told;
        private int prepared;

        Survey(Grid grid, Ends ends, Folding folding) {
            this.grid = grid;
            this.ends = ends;
            this.folding = folding;
            totals = new int[TOTALS];
            standing = new int[Grid.NUMBERS];
            counts = new int[Grid.KEYS * COLUMNS];
            told = new int[Grid.KEYS];
            prepared = -1;
        }

        int total(int what) {
            return what >= 0 && what < TOTALS ? totals[what] : 0;
        }

        /** What the rule tells for a key: a distance, NONE, or NO_SUCH if no position has it. */
        int told(int key) {
            return key >= 0 && key < Grid.KEYS ? told[key] : NO_SUCH;
        }

        int countWith(int distance) {
            int column = distance == NONE ? LAST : distance;
            int count = 0;
            for (int key = 0; key < Grid.KEYS && column >= 0 && column < COLUMNS; key++) {
                count += distanceOf(column) == distance ? counts[key * COLUMNS + column] : 0;
            }
            return count;
        }

        private static int distanceOf(int column) {
            return column == LAST ? NONE : column;
        }

        void prepare(State state) {
            if (prepared == Ends.signOf(state)) {
                return;
            }
            prepared = Ends.signOf(state);
            ends.prepare(state);
            folding.prepare(state.blocked);
            Arrays.fill(totals, 0);
            Arrays.fill(counts, 0);
            totals[SYMMETRIES] = folding.symmetries();
            goThrough(state.blocked);
            makeRule();
            countExceptions();
            totals[ENDLESS] = countWith(NONE);
        }

        private void goThrough(int blocked) {
            totals[GREATEST] = NONE;
            totals[FIRST_GREATEST] = NONE;
            for (int number = 0; number < Grid.NUMBERS; number++) {
                if (grid.isPosition(number, blocked)) {
                    totals[POSITIONS]++;
                    if (ends.at(number) > totals[GREATEST]) {
                        totals[GREATEST] = ends.at(number);
                        totals[FIRST_GREATEST] = number;
                    }
                    if (folding.standsForItself(number)) {
                        collect(number);
                    }
                }
            }
        }

        private void collect(int number) {
            int distance = ends.at(number);
            int column = distance == NONE ? LAST : distance;
            int index = grid.keyOf(number) * COLUMNS + column;
            if (index >= 0 && index < counts.length && totals[STANDING] < standing.length) {
                counts[index]++;
                standing[totals[STANDING]] = number;
                totals[STANDING]++;
            }
        }

        private void makeRule() {
            for (int key = 0; key < Grid.KEYS; key++) {
                told[key] = commonest(key);
                if (told[key] != NO_SUCH) {
                    totals[USED_KEYS]++;
                }
            }
        }

        /** Goes from the least distance to none, so that of several that are as common the first one is told. */
        private int commonest(int key) {
            int most = 0;
            int commonest = NO_SUCH;
            for (int column = 0; column < COLUMNS; column++) {
                int count = counts[key * COLUMNS + column];
                if (count > most) {
                    most = count;
                    commonest = distanceOf(column);
                }
            }
            return commonest;
        }

        private void countExceptions() {
            int run = 0;
            int lastBlock = -1;
            for (int i = 0; i < totals[STANDING] && i < standing.length; i++) {
                int number = standing[i];
                if (ends.at(number) == told(grid.keyOf(number))) {
                    run = 0;
                } else {
                    run++;
                    countException(run, lastBlock != number / 64);
                    lastBlock = number / 64;
                }
            }
        }

        private void countException(int run, boolean newBlock) {
            totals[EXCEPTIONS]++;
            if (run == 1) {
                totals[RUNS]++;
            }
            if (newBlock) {
                totals[BLOCKS]++;
            }
            totals[LONGEST_RUN] = Math.max(totals[LONGEST_RUN], run);
        }
    }

    /** The moves of a position, and the best of them. A move is told as 16 * from + to. */
    private static final class Game {
        private static final int WITHOUT_END = 1000000;
        private static final int CATCH = -1;

        private final Grid grid;
        private final Ends ends;

        Game(Grid grid, Ends ends) {
            this.grid = grid;
            this.ends = ends;
        }

        static int fromOf(int move) {
            return move < 0 ? NONE : move / Grid.PLACES;
        }

        static int toOf(int move) {
            return move < 0 ? NONE : move % Grid.PLACES;
        }

        boolean caught(State state) {
            return state.hunterOnFox() || state.who == 1 && foxSteps(state) == 0;
        }

        private int foxSteps(State state) {
            return grid.stepsFrom(state.fox, state.setting(FOX) == 1) & ~state.blocked & ~state.hunters();
        }

        private int hunterSteps(State state, int from) {
            return grid.stepsFrom(from, state.setting(HUNT) == 1) & ~state.blocked & ~state.hunters();
        }

        boolean allows(State state, int from, int to) {
            if (caught(state)) {
                return false;
            }
            if (state.who == 1) {
                return from == state.fox && (foxSteps(state) >> to & 1) != 0;
            }
            if (from != state.low && from != state.high) {
                return false;
            }
            if (from == to) {
                return state.setting(PASS) == 1;
            }
            return (hunterSteps(state, from) >> to & 1) != 0;
        }

        void make(State state, int from, int to) {
            if (state.who == 1) {
                state.place(0, to, state.low, state.high);
            } else {
                int other = from == state.low ? state.high : state.low;
                state.place(1, state.fox, to, other);
            }
        }

        /** The best move that is told, or NONE. */
        int bestMove(State state) {
            if (caught(state)) {
                return NONE;
            }
            ends.prepare(state);
            return state.who == 1 ? bestOfFox(state) : bestOfHunters(state);
        }

        private int bestOfFox(State state) {
            int steps = foxSteps(state);
            int best = NONE;
            int greatest = -1;
            for (int to = 0; to < Grid.PLACES; to++) {
                if ((steps >> to & 1) != 0) {
                    int worth = lengthOf(0, to, state.low, state.high);
                    if (worth > greatest) {
                        greatest = worth;
                        best = Grid.PLACES * state.fox + to;
                    }
                }
            }
            return best;
        }

        private int bestOfHunters(State state) {
            int best = NONE;
            int least = WITHOUT_END + 1;
            for (int hunter = 0; hunter < 2; hunter++) {
                int from = hunter == 0 ? state.low : state.high;
                int steps = hunterSteps(state, from);
                for (int to = 0; to < Grid.PLACES; to++) {
                    if ((steps >> to & 1) != 0 && worthOf(state, from, to) < least) {
                        least = worthOf(state, from, to);
                        best = Grid.PLACES * from + to;
                    }
                }
            }
            if (state.setting(PASS) == 1 && worthOf(state, state.low, state.low) < least) {
                best = Grid.PLACES * state.low + state.low;
            }
            return best;
        }

        /** What a hunters' move leads to: the less, the better. */
        private int worthOf(State state, int from, int to) {
            int other = from == state.low ? state.high : state.low;
            return to == state.fox ? CATCH : lengthOf(1, state.fox, to, other);
        }

        private int lengthOf(int who, int fox, int one, int other) {
            int distance = ends.at(grid.numberOf(who, fox, one, other));
            return distance == NONE ? WITHOUT_END : distance;
        }
    }

    /** The states before the latest changes, the oldest one first. */
    private static final class History {
        private static final int ROOM = 6;

        private final State[] states;
        private int length;

        History() {
            states = new State[ROOM];
            for (int i = 0; i < ROOM; i++) {
                states[i] = new State();
            }
        }

        int length() {
            return length;
        }

        void record(State state) {
            if (length >= ROOM) {
                dropOldest();
            }
            if (length >= 0) {
                states[length].take(state);
                length++;
            }
        }

        private void dropOldest() {
            State oldest = states[0];
            for (int i = 1; i < ROOM; i++) {
                states[i - 1] = states[i];
            }
            states[ROOM - 1] = oldest;
            length = ROOM - 1;
        }

        void takeBack(State state) {
            if (length > 0 && length <= ROOM) {
                length--;
                state.take(states[length]);
            }
        }
    }

    /** The text that is put together, and what it tells. */
    private static final class Pad {
        static final int ROOM = 24;

        private static final int TEXT = 20;

        private final char[] signs;
        private int length;

        Pad() {
            signs = new char[ROOM];
        }

        int length() {
            return length;
        }

        void empty() {
            length = 0;
        }

        /** How many characters a number gives: 0 to 8, or BAD_VALUE if it is not well formed. */
        static int countIn(long characters) {
            long rest = characters;
            int count = 0;
            for (int i = 0; i < 8 && rest != 0; i++) {
                int code = (int) (rest & 255);
                if (code < 33 || code > 126) {
                    return BAD_VALUE;
                }
                rest = rest >>> 8;
                count++;
            }
            return count;
        }

        void append(long characters, int count) {
            for (int i = count - 1; i >= 0 && length >= 0 && length < ROOM; i--) {
                signs[length] = (char) (characters >>> 8 * i & 255);
                length++;
            }
        }

        int firstFault() {
            for (int i = 0; i < length && i < ROOM; i++) {
                if (!canStand(signs[i], i)) {
                    return i;
                }
            }
            return length < TEXT ? length : NONE;
        }

        private static boolean canStand(char sign, int index) {
            if (index >= TEXT) {
                return false;
            }
            if (index == TEXT - 1) {
                return sign == 'h' || sign == 'f';
            }
            if (index % 5 == 4) {
                return sign == '/';
            }
            return sign == '.' || sign == '#' || sign == 'F' || sign == 'H';
        }

        /** The places where a sign stands, in a pad without a fault. */
        int placesOf(char sign) {
            int places = 0;
            for (int place = 0; place < Grid.PLACES; place++) {
                if (signs[place + place / 4] == sign) {
                    places |= 1 << place;
                }
            }
            return places;
        }

        boolean foxMoves() {
            return signs[TEXT - 1] == 'f';
        }
    }
}
