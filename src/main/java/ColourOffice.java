import java.util.NoSuchElementException;

/**
 * A lost-property office for colours: found colours fade day by day, lost colours are reported, colours are
 * returned for reports, the nearest colours are looked up, and small palettes are chosen.
 *
 * <p>Every row and table is made once, in the constructor, and used again by all calls.
 */
public final class ColourOffice {

    private static final int NONE = -1;
    // Greater than every distance and every error.
    private static final int BEYOND_ALL = 1000000000;

    private static final int MAX_COLOURS = 10;
    private static final int MAX_REPORTS = 6;
    private static final int MAX_CHANGES = 8;
    private static final int MAX_PART = 99;
    private static final int GREY_PART = 50;
    private static final int MAX_FASTNESS = 9;
    private static final int MAX_TOLERANCE = 9999;
    private static final int MAX_REWARD = 99;
    private static final int MAX_DAYS = 99;
    private static final int MAX_CHECKED_PALETTE = 3;

    private static final char SUM_METRIC = 'm';
    private static final char SQUARE_METRIC = 's';
    private static final char GREATEST_METRIC = 'g';

    private static final char NO_FAILURE = '-';
    private static final char BAD_ARGUMENT = 'a';
    private static final char BAD_STATE = 's';
    private static final char NO_ELEMENT = 'e';
    private static final char NOT_SUPPORTED = 'u';

    // The columns of a row in a table: both kinds of rows have an id, the parts of a colour and two numbers more.
    private static final int ID = 0;
    private static final int RED = 1;
    private static final int GREEN = 2;
    private static final int BLUE = 3;
    private static final int PARTS = 3;
    private static final int FASTNESS = 4;
    private static final int ADDED_ON = 5;
    private static final int TOLERANCE = 4;
    private static final int REWARD = 5;
    private static final int COLUMNS = 6;

    private static final Command[] COMMANDS = Command.values();

    private final State state;
    private final State beforeScript;
    private final State snapshot;
    private final History history;
    private final Finder finder;
    private final Settlement settlement;
    private final Palettes palettes;
    private final Script script;
    private final Text output;
    private final int[] wanted;
    private boolean hasSnapshot;
    private boolean scriptRuns;
    private int formErrorAt;
    private int failedAt;
    private char failure;

    public ColourOffice() {
        state = new State();
        beforeScript = new State();
        snapshot = new State();
        history = new History();
        finder = new Finder();
        settlement = new Settlement();
        palettes = new Palettes();
        script = new Script();
        output = new Text();
        wanted = new int[COLUMNS];
        formErrorAt = NONE;
        failedAt = NONE;
        failure = NO_FAILURE;
    }

    // ---- changes ----

    public int addColour(int red, int green, int blue, int fastness)
            throws IllegalArgumentException, IllegalStateException {
        if (!isColour(red, green, blue) || !isBetween(fastness, 1, MAX_FASTNESS)) {
            throw new IllegalArgumentException("a part is not between 0 and 99, or the fastness not between 1 and 9");
        }
        if (state.colours.isFull()) {
            throw new IllegalStateException("there are 10 found colours");
        }
        remember();
        return state.colours.append(red, green, blue, fastness, state.day);
    }

    public int report(int red, int green, int blue, int tolerance, int reward)
            throws IllegalArgumentException, IllegalStateException {
        if (!isColour(red, green, blue) || !isBetween(tolerance, 0, MAX_TOLERANCE)
                || !isBetween(reward, 1, MAX_REWARD)) {
            throw new IllegalArgumentException("a part, the tolerance or the reward is out of its bounds");
        }
        if (state.reports.isFull()) {
            throw new IllegalStateException("6 reports are open");
        }
        remember();
        return state.reports.append(red, green, blue, tolerance, reward);
    }

    public int withdraw(int report) throws NoSuchElementException {
        int position = openAt(report);
        remember();
        state.reports.removeAt(position);
        return state.reports.count;
    }

    public int discard(int colour) throws NoSuchElementException {
        int position = foundAt(colour);
        remember();
        state.colours.removeAt(position);
        state.payForDiscard();
        return state.colours.count;
    }

    public char setMetric(char metric) throws IllegalArgumentException {
        if (!isMetric(metric)) {
            throw new IllegalArgumentException("no such metric");
        }
        remember();
        char previous = state.metric;
        state.metric = metric;
        return previous;
    }

    public int giveBack(int report, int colour) throws NoSuchElementException, UnsupportedOperationException {
        int reportPosition = openAt(report);
        int colourPosition = foundAt(colour);
        if (state.nearestTo(state.reports.rows[reportPosition]) != colourPosition
                || !state.isFitting(reportPosition, colourPosition)) {
            throw new UnsupportedOperationException("the colour is not the nearest one, or does not fit");
        }
        remember();
        int reward = state.reports.rows[reportPosition][REWARD];
        state.earn(reward);
        state.reports.removeAt(reportPosition);
        state.colours.removeAt(colourPosition);
        return reward;
    }

    public int settle() {
        settlement.solve(state);
        remember();
        return settlement.carryOut(state);
    }

    public int mix(int first, int second) throws NoSuchElementException, IllegalArgumentException {
        int firstPosition = foundAt(first);
        int secondPosition = foundAt(second);
        if (firstPosition == secondPosition) {
            throw new IllegalArgumentException("both colours are the same");
        }
        remember();
        return state.blend(firstPosition, secondPosition);
    }

    public int passDays(int days) throws IllegalArgumentException {
        if (!isBetween(days, 1, MAX_DAYS)) {
            throw new IllegalArgumentException("the number of days is not between 1 and 99");
        }
        remember();
        for (int passed = 0; passed < days; passed++) {
            state.passOneDay();
        }
        return state.greyCount();
    }

    // ---- found colours ----

    public int colourCount() {
        return state.colours.count;
    }

    public int colourAt(int position) throws NoSuchElementException {
        if (position < 0 || position >= state.colours.count) {
            throw new NoSuchElementException("no such position");
        }
        return state.colours.rows[position][ID];
    }

    public int red(int colour) throws NoSuchElementException {
        return state.colours.rows[foundAt(colour)][RED];
    }

    public int green(int colour) throws NoSuchElementException {
        return state.colours.rows[foundAt(colour)][GREEN];
    }

    public int blue(int colour) throws NoSuchElementException {
        return state.colours.rows[foundAt(colour)][BLUE];
    }

    public int fastness(int colour) throws NoSuchElementException {
        return state.colours.rows[foundAt(colour)][FASTNESS];
    }

    public int age(int colour) throws NoSuchElementException {
        return state.ageAt(foundAt(colour));
    }

    public int daysUntilGrey(int colour) throws NoSuchElementException {
        return state.daysToGreyAt(foundAt(colour));
    }

    public int colourByBrightness(int rank) throws NoSuchElementException {
        int position = state.positionByBrightness(rank);
        if (position < 0) {
            throw new NoSuchElementException("no such rank");
        }
        return state.colours.rows[position][ID];
    }

    // ---- reports ----

    public int reportCount() {
        return state.reports.count;
    }

    public int reportAt(int position) throws NoSuchElementException {
        if (position < 0 || position >= state.reports.count) {
            throw new NoSuchElementException("no such position");
        }
        return state.reports.rows[position][ID];
    }

    public int toleranceOf(int report) throws NoSuchElementException {
        return state.reports.rows[openAt(report)][TOLERANCE];
    }

    public int rewardOf(int report) throws NoSuchElementException {
        return state.reports.rows[openAt(report)][REWARD];
    }

    public int distanceFor(int report, int colour) throws NoSuchElementException {
        int reportPosition = openAt(report);
        int colourPosition = foundAt(colour);
        return state.between(state.reports.rows[reportPosition], state.colours.rows[colourPosition]);
    }

    public boolean fits(int report, int colour) throws NoSuchElementException {
        int reportPosition = openAt(report);
        int colourPosition = foundAt(colour);
        return state.isFitting(reportPosition, colourPosition);
    }

    public int nearestFor(int report) throws NoSuchElementException {
        int position = state.nearestTo(state.reports.rows[openAt(report)]);
        if (position < 0) {
            throw new NoSuchElementException("no found colours");
        }
        return state.colours.rows[position][ID];
    }

    // ---- distances ----

    public int distance(int first, int second) throws NoSuchElementException {
        int firstPosition = foundAt(first);
        int secondPosition = foundAt(second);
        return state.between(state.colours.rows[firstPosition], state.colours.rows[secondPosition]);
    }

    public int nearest(int red, int green, int blue) throws IllegalArgumentException, NoSuchElementException {
        if (!isColour(red, green, blue)) {
            throw new IllegalArgumentException("a part is not between 0 and 99");
        }
        want(red, green, blue);
        int position = finder.nearestByTree(state, wanted);
        if (position < 0) {
            throw new NoSuchElementException("no found colours");
        }
        return state.colours.rows[position][ID];
    }

    public int nearestByLooking(int red, int green, int blue)
            throws IllegalArgumentException, NoSuchElementException {
        if (!isColour(red, green, blue)) {
            throw new IllegalArgumentException("a part is not between 0 and 99");
        }
        want(red, green, blue);
        int position = state.nearestTo(wanted);
        if (position < 0) {
            throw new NoSuchElementException("no found colours");
        }
        return state.colours.rows[position][ID];
    }

    public int closestDistance() throws NoSuchElementException {
        if (state.colours.count < 2) {
            throw new NoSuchElementException("fewer than 2 found colours");
        }
        return state.closestOfPairs();
    }

    public int closestDistanceBySorting() throws NoSuchElementException {
        if (state.colours.count < 2) {
            throw new NoSuchElementException("fewer than 2 found colours");
        }
        return finder.closestBySorting(state);
    }

    // ---- settlements and palettes ----

    public int bestReward() {
        settlement.solve(state);
        return settlement.rewardSum();
    }

    public int bestRewardByTrying() {
        return settlement.rewardByTrying(state);
    }

    public int bestDifference() {
        settlement.solve(state);
        return settlement.distanceSum();
    }

    public int settlementFor(int report) throws NoSuchElementException {
        int reportPosition = openAt(report);
        settlement.solve(state);
        int position = settlement.chosen[reportPosition];
        if (position < 0) {
            throw new NoSuchElementException("the report gets no colour");
        }
        return state.colours.rows[position][ID];
    }

    public int paletteError(int size) throws IllegalArgumentException {
        if (!isBetween(size, 1, state.colours.count)) {
            throw new IllegalArgumentException("no palette of this size is possible");
        }
        palettes.measureAll(state);
        return palettes.errorOf(palettes.bestOfSize(size));
    }

    public int paletteErrorBySearch(int size) throws IllegalArgumentException {
        if (!isBetween(size, 1, state.colours.count)) {
            throw new IllegalArgumentException("no palette of this size is possible");
        }
        palettes.measureAll(state);
        return palettes.errorBySearch(size);
    }

    public int paletteColour(int size, int position) throws IllegalArgumentException, NoSuchElementException {
        if (!isBetween(size, 1, state.colours.count)) {
            throw new IllegalArgumentException("no palette of this size is possible");
        }
        if (position < 0 || position >= size) {
            throw new NoSuchElementException("no such position");
        }
        palettes.measureAll(state);
        int member = palettes.memberAt(palettes.bestOfSize(size), position);
        return state.colours.rows[member][ID];
    }

    // ---- totals and checks ----

    public int day() {
        return state.day;
    }

    public char metric() {
        return state.metric;
    }

    public int coins() {
        return state.coins;
    }

    public int coinsByAccounts() {
        return state.rewardsGot - state.discards;
    }

    public int returnedTotal() {
        return state.returns;
    }

    public double meanBrightness() throws ArithmeticException {
        if (state.colours.count == 0) {
            throw new ArithmeticException("no found colours");
        }
        return (double) state.brightnessSum() / (double) (PARTS * state.colours.count);
    }

    public float greyShare() throws ArithmeticException {
        if (state.colours.count == 0) {
            throw new ArithmeticException("no found colours");
        }
        return (float) state.greyCount() / (float) state.colours.count;
    }

    public boolean isConsistent() {
        return nearestAgree() && closestAgree() && settlementsAgree() && palettesAgree()
                && coins() == coinsByAccounts();
    }

    // ---- output and scripts ----

    public int renderColour(int colour) throws NoSuchElementException {
        int position = foundAt(colour);
        int[] row = state.colours.rows[position];
        output.start(row, '#');
        output.put('f');
        output.putNumber(row[FASTNESS]);
        output.put('d');
        output.putNumber(state.ageAt(position));
        if (state.isGreyAt(position)) {
            output.put('g');
        }
        return output.length;
    }

    public int renderReport(int report) throws NoSuchElementException {
        int position = openAt(report);
        int[] row = state.reports.rows[position];
        output.start(row, '?');
        output.put('~');
        output.putNumber(row[TOLERANCE]);
        output.put('+');
        output.putNumber(row[REWARD]);
        return output.length;
    }

    public char outputAt(int index) throws IndexOutOfBoundsException {
        if (index < 0 || index >= output.length) {
            throw new IndexOutOfBoundsException("no such index");
        }
        return output.signs[index];
    }

    public int type(char character) throws IllegalArgumentException, IllegalStateException {
        if (character < 32 || character > 126) {
            throw new IllegalArgumentException("the character code is not between 32 and 126");
        }
        if (script.isFull()) {
            throw new IllegalStateException("the script buffer has 60 characters");
        }
        return script.append(character);
    }

    public int runScript() throws IllegalArgumentException, IllegalStateException {
        int formError = script.parse();
        script.empty();
        if (formError >= 0) {
            formErrorAt = formError;
            throw new IllegalArgumentException("the script does not have the required form");
        }
        beforeScript.copyFrom(state);
        char kind = NO_FAILURE;
        scriptRuns = true;
        for (int index = 0; index < script.count && kind == NO_FAILURE; index++) {
            kind = failureOf(COMMANDS[script.kinds[index]], script.arguments[index]);
            if (kind != NO_FAILURE) {
                failedAt = index;
                failure = kind;
            }
        }
        scriptRuns = false;
        if (kind != NO_FAILURE) {
            state.copyFrom(beforeScript);
            throw new IllegalStateException("a command failed");
        }
        history.push(beforeScript);
        return script.count;
    }

    public int errorPosition() throws NoSuchElementException {
        if (formErrorAt < 0) {
            throw new NoSuchElementException("no script without the required form");
        }
        return formErrorAt;
    }

    public int failedCommand() throws NoSuchElementException {
        if (failedAt < 0) {
            throw new NoSuchElementException("no script with a failed command");
        }
        return failedAt;
    }

    public char failureKind() throws NoSuchElementException {
        if (failedAt < 0) {
            throw new NoSuchElementException("no script with a failed command");
        }
        return failure;
    }

    public int undo() throws NoSuchElementException {
        if (history.size == 0) {
            throw new NoSuchElementException("nothing to undo");
        }
        history.popInto(state);
        return history.size;
    }

    public int save() {
        snapshot.copyFrom(state);
        hasSnapshot = true;
        return state.colours.count;
    }

    public int restore() throws IllegalStateException {
        if (!hasSnapshot) {
            throw new IllegalStateException("no snapshot");
        }
        state.copyFrom(snapshot);
        history.forget();
        return state.colours.count;
    }

    // ---- helpers ----

    private static boolean isBetween(int number, int least, int most) {
        return number >= least && number <= most;
    }

    private static boolean isColour(int red, int green, int blue) {
        return isBetween(red, 0, MAX_PART) && isBetween(green, 0, MAX_PART) && isBetween(blue, 0, MAX_PART);
    }

    private static boolean isMetric(char letter) {
        return letter == SUM_METRIC || letter == SQUARE_METRIC || letter == GREATEST_METRIC;
    }

    private static int measure(char metric, int redGap, int greenGap, int blueGap) {
        int red = Math.abs(redGap);
        int green = Math.abs(greenGap);
        int blue = Math.abs(blueGap);
        if (metric == SQUARE_METRIC) {
            return red * red + green * green + blue * blue;
        }
        if (metric == GREATEST_METRIC) {
            return Math.max(red, Math.max(green, blue));
        }
        return red + green + blue;
    }

    private int foundAt(int colour) throws NoSuchElementException {
        int position = state.colours.positionOf(colour);
        if (position < 0) {
            throw new NoSuchElementException("no such found colour");
        }
        return position;
    }

    private int openAt(int report) throws NoSuchElementException {
        int position = state.reports.positionOf(report);
        if (position < 0) {
            throw new NoSuchElementException("no such open report");
        }
        return position;
    }

    private void want(int red, int green, int blue) {
        wanted[RED] = red;
        wanted[GREEN] = green;
        wanted[BLUE] = blue;
    }

    // A script is one change, however many commands it has: its commands are not remembered one by one.
    private void remember() {
        if (!scriptRuns) {
            history.push(state);
        }
    }

    private char failureOf(Command command, int[] arguments) {
        try {
            switch (command) {
                case FIND:
                    addColour(arguments[0], arguments[1], arguments[2], arguments[3]);
                    break;
                case REPORT:
                    report(arguments[0], arguments[1], arguments[2], arguments[3], arguments[4]);
                    break;
                case DROP:
                    withdraw(arguments[0]);
                    break;
                case DISCARD:
                    discard(arguments[0]);
                    break;
                case METRIC:
                    setMetric((char) arguments[0]);
                    break;
                case RETURN:
                    giveBack(arguments[0], arguments[1]);
                    break;
                case SETTLE:
                    settle();
                    break;
                case MIX:
                    mix(arguments[0], arguments[1]);
                    break;
                case ONE_DAY:
                    passDays(1);
                    break;
                case DAYS:
                    passDays(arguments[0]);
                    break;
                default:
                    break;
            }
        } catch (IllegalArgumentException refused) {
            return BAD_ARGUMENT;
        } catch (IllegalStateException refused) {
            return BAD_STATE;
        } catch (NoSuchElementException refused) {
            return NO_ELEMENT;
        } catch (UnsupportedOperationException refused) {
            return NOT_SUPPORTED;
        }
        return NO_FAILURE;
    }

    private boolean nearestAgree() {
        if (state.colours.count == 0) {
            return true;
        }
        for (int report = 0; report < state.reports.count; report++) {
            int[] row = state.reports.rows[report];
            if (finder.nearestByTree(state, row) != state.nearestTo(row)) {
                return false;
            }
        }
        return true;
    }

    private boolean closestAgree() {
        return state.colours.count < 2 || state.closestOfPairs() == finder.closestBySorting(state);
    }

    private boolean settlementsAgree() {
        settlement.solve(state);
        return settlement.rewardSum() == settlement.rewardByTrying(state);
    }

    private boolean palettesAgree() {
        palettes.measureAll(state);
        for (int size = 1; size <= MAX_CHECKED_PALETTE && size <= state.colours.count; size++) {
            if (palettes.errorOf(palettes.bestOfSize(size)) != palettes.errorBySearch(size)) {
                return false;
            }
        }
        return true;
    }

    /** Found colours or open reports, a row each, in the order of their ids. */
    private static final class Table {
        final int[][] rows;
        int count;
        int nextId;

        Table(int capacity) {
            rows = new int[capacity][COLUMNS];
        }

        boolean isFull() {
            return count >= rows.length;
        }

        int positionOf(int id) {
            for (int position = 0; position < count; position++) {
                if (rows[position][ID] == id) {
                    return position;
                }
            }
            return NONE;
        }

        int append(int red, int green, int blue, int fourth, int fifth) {
            int[] row = rows[count];
            row[ID] = nextId;
            row[RED] = red;
            row[GREEN] = green;
            row[BLUE] = blue;
            row[FASTNESS] = fourth;
            row[ADDED_ON] = fifth;
            count++;
            nextId++;
            return row[ID];
        }

        void removeAt(int position) {
            for (int next = position + 1; next < count; next++) {
                for (int column = 0; column < COLUMNS; column++) {
                    rows[next - 1][column] = rows[next][column];
                }
            }
            count--;
        }

        void copyFrom(Table other) {
            for (int position = 0; position < other.count; position++) {
                for (int column = 0; column < COLUMNS; column++) {
                    rows[position][column] = other.rows[position][column];
                }
            }
            count = other.count;
            nextId = other.nextId;
        }
    }

    /** All that undo and the snapshot cover. Positions stand in the order of ids, so the lower one has the lower id. */
    private static final class State {
        final Table colours;
        final Table reports;
        int day;
        char metric;
        int coins;
        int rewardsGot;
        int discards;
        int returns;

        State() {
            colours = new Table(MAX_COLOURS);
            reports = new Table(MAX_REPORTS);
            metric = SUM_METRIC;
        }

        void copyFrom(State other) {
            colours.copyFrom(other.colours);
            reports.copyFrom(other.reports);
            day = other.day;
            metric = other.metric;
            coins = other.coins;
            rewardsGot = other.rewardsGot;
            discards = other.discards;
            returns = other.returns;
        }

        void payForDiscard() {
            coins--;
            discards++;
        }

        void earn(int reward) {
            coins += reward;
            rewardsGot += reward;
            returns++;
        }

        int blend(int firstPosition, int secondPosition) {
            int[] first = colours.rows[firstPosition];
            int[] second = colours.rows[secondPosition];
            int red = (first[RED] + second[RED]) / 2;
            int green = (first[GREEN] + second[GREEN]) / 2;
            int blue = (first[BLUE] + second[BLUE]) / 2;
            int fastness = Math.min(first[FASTNESS], second[FASTNESS]);
            colours.removeAt(Math.max(firstPosition, secondPosition));
            colours.removeAt(Math.min(firstPosition, secondPosition));
            return colours.append(red, green, blue, fastness, day);
        }

        void passOneDay() {
            day++;
            for (int position = 0; position < colours.count; position++) {
                int[] row = colours.rows[position];
                int fastness = row[FASTNESS];
                if (fastness > 0 && ageAt(position) % fastness == 0) {
                    fade(row);
                }
            }
        }

        private static void fade(int[] row) {
            for (int part = RED; part <= BLUE; part++) {
                if (row[part] > GREY_PART) {
                    row[part]--;
                } else if (row[part] < GREY_PART) {
                    row[part]++;
                }
            }
        }

        int ageAt(int position) {
            return day - colours.rows[position][ADDED_ON];
        }

        boolean isGreyAt(int position) {
            int[] row = colours.rows[position];
            return row[RED] == GREY_PART && row[GREEN] == GREY_PART && row[BLUE] == GREY_PART;
        }

        int greyCount() {
            int grey = 0;
            for (int position = 0; position < colours.count; position++) {
                if (isGreyAt(position)) {
                    grey++;
                }
            }
            return grey;
        }

        int daysToGreyAt(int position) {
            int[] row = colours.rows[position];
            int fades = measure(GREATEST_METRIC, row[RED] - GREY_PART, row[GREEN] - GREY_PART, row[BLUE] - GREY_PART);
            int fastness = row[FASTNESS];
            if (fades == 0 || fastness < 1) {
                return 0;
            }
            // The days since the latest age that the fastness divides count for the first of these fades.
            return fades * fastness - ageAt(position) % fastness;
        }

        private int brightnessAt(int position) {
            int[] row = colours.rows[position];
            return row[RED] + row[GREEN] + row[BLUE];
        }

        int brightnessSum() {
            int sum = 0;
            for (int position = 0; position < colours.count; position++) {
                sum += brightnessAt(position);
            }
            return sum;
        }

        int positionByBrightness(int rank) {
            for (int position = 0; position < colours.count; position++) {
                if (brightnessRankAt(position) == rank) {
                    return position;
                }
            }
            return NONE;
        }

        private int brightnessRankAt(int position) {
            int rank = 0;
            int own = brightnessAt(position);
            for (int other = 0; other < colours.count; other++) {
                int brightness = brightnessAt(other);
                if (brightness > own || brightness == own && other < position) {
                    rank++;
                }
            }
            return rank;
        }

        int between(int[] first, int[] second) {
            return measure(metric, first[RED] - second[RED], first[GREEN] - second[GREEN],
                    first[BLUE] - second[BLUE]);
        }

        boolean isFitting(int reportPosition, int colourPosition) {
            int[] row = reports.rows[reportPosition];
            return between(row, colours.rows[colourPosition]) <= row[TOLERANCE];
        }

        int nearestTo(int[] target) {
            int best = NONE;
            int least = BEYOND_ALL;
            for (int position = 0; position < colours.count; position++) {
                int gap = between(target, colours.rows[position]);
                if (gap < least) {
                    least = gap;
                    best = position;
                }
            }
            return best;
        }

        int closestOfPairs() {
            int least = BEYOND_ALL;
            for (int first = 0; first < colours.count; first++) {
                for (int second = first + 1; second < colours.count; second++) {
                    least = Math.min(least, between(colours.rows[first], colours.rows[second]));
                }
            }
            return least;
        }
    }

    /** The latest changes that can be undone, as the states before them. */
    private static final class History {
        private final State[] states;
        private int next;
        int size;

        History() {
            states = new State[MAX_CHANGES];
            for (int slot = 0; slot < MAX_CHANGES; slot++) {
                states[slot] = new State();
            }
        }

        void push(State state) {
            states[next].copyFrom(state);
            next = (next + 1) % MAX_CHANGES;
            size = Math.min(size + 1, MAX_CHANGES);
        }

        void popInto(State state) {
            next = (next + MAX_CHANGES - 1) % MAX_CHANGES;
            state.copyFrom(states[next]);
            size--;
        }

        void forget() {
            size = 0;
        }
    }

    /** Finds near colours by their order: a tree that divides by the parts in turn, and a row sorted by red. */
    private static final class Finder {
        // A stretch of this row is a tree: its middle is the root, and what stands on both sides are the branches.
        private final int[] order;

        Finder() {
            order = new int[MAX_COLOURS];
        }

        int nearestByTree(State state, int[] target) {
            int count = state.colours.count;
            listAll(count);
            divide(state.colours.rows, order, 0, count, 0);
            return search(state, order, target, 0, count, 0, NONE);
        }

        private void listAll(int count) {
            for (int position = 0; position < count; position++) {
                order[position] = position;
            }
        }

        private static void divide(int[][] rows, int[] order, int from, int to, int depth) {
            if (to - from < 2 || depth > MAX_COLOURS) {
                return;
            }
            sort(rows, order, from, to, RED + depth % PARTS);
            int middle = (from + to) / 2;
            divide(rows, order, from, middle, depth + 1);
            divide(rows, order, middle + 1, to, depth + 1);
        }

        private static void sort(int[][] rows, int[] order, int from, int to, int part) {
            for (int end = from + 1; end < to; end++) {
                for (int at = end; at > from && rows[order[at - 1]][part] > rows[order[at]][part]; at--) {
                    int moved = order[at];
                    order[at] = order[at - 1];
                    order[at - 1] = moved;
                }
            }
        }

        private static int search(State state, int[] order, int[] target, int from, int to, int depth, int best) {
            if (from >= to || depth > MAX_COLOURS) {
                return best;
            }
            int middle = (from + to) / 2;
            int root = order[middle];
            int part = RED + depth % PARTS;
            int gap = target[part] - state.colours.rows[root][part];
            int found = nearer(state, target, best, root);
            found = gap < 0
                    ? search(state, order, target, from, middle, depth + 1, found)
                    : search(state, order, target, middle + 1, to, depth + 1, found);
            // A colour behind the dividing line at the same distance may still have a lower id.
            if (measure(state.metric, gap, 0, 0) <= state.between(target, state.colours.rows[found])) {
                found = gap < 0
                        ? search(state, order, target, middle + 1, to, depth + 1, found)
                        : search(state, order, target, from, middle, depth + 1, found);
            }
            return found;
        }

        private static int nearer(State state, int[] target, int best, int candidate) {
            if (best < 0) {
                return candidate;
            }
            int least = state.between(target, state.colours.rows[best]);
            int gap = state.between(target, state.colours.rows[candidate]);
            return gap < least || gap == least && candidate < best ? candidate : best;
        }

        int closestBySorting(State state) {
            int[][] rows = state.colours.rows;
            int count = state.colours.count;
            listAll(count);
            sort(rows, order, 0, count, RED);
            int least = BEYOND_ALL;
            for (int first = 0; first < count; first++) {
                int[] row = rows[order[first]];
                for (int second = first + 1; second < count; second++) {
                    int[] other = rows[order[second]];
                    if (measure(state.metric, other[RED] - row[RED], 0, 0) >= least) {
                        break;
                    }
                    least = Math.min(least, state.between(row, other));
                }
            }
            return least;
        }
    }

    /** The best settlement of the open reports. Sets of colours are bits, by position. */
    private static final class Settlement {
        // More than all distances of a settlement together, so that one coin outweighs them.
        private static final int COIN_WEIGHT = 100000;

        private final int[][] distances;
        private final int[] rewards;
        private final int[] possibleFrom;
        // By the number of reports that are left and the colours used before them; with no report left it stays 0.
        private final int[][] best;
        final int[] chosen;
        private int reportCount;
        private int colourCount;

        Settlement() {
            distances = new int[MAX_REPORTS][MAX_COLOURS];
            rewards = new int[MAX_REPORTS];
            possibleFrom = new int[MAX_REPORTS];
            best = new int[MAX_REPORTS + 1][1 << MAX_COLOURS];
            chosen = new int[MAX_REPORTS];
        }

        void solve(State state) {
            load(state);
            weighAll();
            choose();
        }

        private void load(State state) {
            reportCount = state.reports.count;
            colourCount = state.colours.count;
            int possible = 0;
            for (int report = reportCount - 1; report >= 0; report--) {
                int[] row = state.reports.rows[report];
                boolean anyFits = false;
                for (int colour = 0; colour < colourCount; colour++) {
                    int distance = state.between(row, state.colours.rows[colour]);
                    boolean fitting = distance <= row[TOLERANCE];
                    distances[report][colour] = fitting ? distance : NONE;
                    anyFits = anyFits || fitting;
                }
                rewards[report] = row[REWARD];
                possible += anyFits ? rewards[report] : 0;
                possibleFrom[report] = possible;
            }
        }

        private void weighAll() {
            for (int report = reportCount - 1; report >= 0; report--) {
                for (int used = 0; used < 1 << colourCount; used++) {
                    // The reports before this one cannot have used more colours than they are.
                    if (Integer.bitCount(used) <= report) {
                        best[reportCount - report][used] = bestWeight(report, used);
                    }
                }
            }
        }

        private int bestWeight(int report, int used) {
            int weight = best[reportCount - report - 1][used];
            for (int colour = 0; colour < colourCount; colour++) {
                if (isFree(report, colour, used)) {
                    weight = Math.max(weight, weightWith(report, colour, used));
                }
            }
            return weight;
        }

        private boolean isFree(int report, int colour, int used) {
            return distances[report][colour] >= 0 && (used >> colour & 1) == 0;
        }

        private int weightWith(int report, int colour, int used) {
            return rewards[report] * COIN_WEIGHT - distances[report][colour]
                    + best[reportCount - report - 1][used | 1 << colour];
        }

        private void choose() {
            int used = 0;
            for (int report = 0; report < reportCount; report++) {
                chosen[report] = firstBest(report, used);
                if (chosen[report] >= 0) {
                    used |= 1 << chosen[report];
                }
            }
        }

        private int firstBest(int report, int used) {
            int weight = best[reportCount - report][used];
            for (int colour = 0; colour < colourCount; colour++) {
                if (isFree(report, colour, used) && weightWith(report, colour, used) == weight) {
                    return colour;
                }
            }
            return NONE;
        }

        int rewardSum() {
            int sum = 0;
            for (int report = 0; report < reportCount; report++) {
                if (chosen[report] >= 0) {
                    sum += rewards[report];
                }
            }
            return sum;
        }

        int distanceSum() {
            int sum = 0;
            for (int report = 0; report < reportCount; report++) {
                if (chosen[report] >= 0) {
                    sum += distances[report][chosen[report]];
                }
            }
            return sum;
        }

        int carryOut(State state) {
            int used = 0;
            int returned = 0;
            // From the back, as each removal moves what stands behind it.
            for (int report = reportCount - 1; report >= 0; report--) {
                if (chosen[report] >= 0) {
                    used |= 1 << chosen[report];
                    returned++;
                    state.earn(rewards[report]);
                    state.reports.removeAt(report);
                }
            }
            for (int colour = colourCount - 1; colour >= 0; colour--) {
                if ((used >> colour & 1) != 0) {
                    state.colours.removeAt(colour);
                }
            }
            return returned;
        }

        int rewardByTrying(State state) {
            load(state);
            return tryFrom(this, 0, 0);
        }

        private static int tryFrom(Settlement settlement, int report, int used) {
            if (report < 0 || report >= settlement.reportCount) {
                return 0;
            }
            int most = 0;
            // Once all that the reports left can bring is reached, no other colour brings more.
            for (int colour = 0; colour < settlement.colourCount && most < settlement.possibleFrom[report]; colour++) {
                if (settlement.isFree(report, colour, used)) {
                    int rest = tryFrom(settlement, report + 1, used | 1 << colour);
                    most = Math.max(most, settlement.rewards[report] + rest);
                }
            }
            if (most < settlement.possibleFrom[report]) {
                most = Math.max(most, tryFrom(settlement, report + 1, used));
            }
            return most;
        }
    }

    /** Palettes of the found colours. A palette is a set of bits, by position. */
    private static final class Palettes {
        private final int[][] distances;
        private int count;

        Palettes() {
            distances = new int[MAX_COLOURS][MAX_COLOURS];
        }

        void measureAll(State state) {
            count = state.colours.count;
            for (int first = 0; first < count; first++) {
                for (int second = 0; second < count; second++) {
                    distances[first][second] = state.between(state.colours.rows[first], state.colours.rows[second]);
                }
            }
        }

        int errorOf(int palette) {
            int error = 0;
            for (int colour = 0; colour < count; colour++) {
                error += distanceToPalette(colour, palette);
            }
            return error;
        }

        private int distanceToPalette(int colour, int palette) {
            int least = BEYOND_ALL;
            for (int member = 0; member < count; member++) {
                if ((palette >> member & 1) != 0) {
                    least = Math.min(least, distances[colour][member]);
                }
            }
            return least;
        }

        int bestOfSize(int size) {
            int best = 0;
            int least = BEYOND_ALL;
            for (int palette = 1; palette < 1 << count; palette++) {
                if (Integer.bitCount(palette) == size) {
                    int error = errorOf(palette);
                    if (error < least || error == least && isBefore(palette, best)) {
                        least = error;
                        best = palette;
                    }
                }
            }
            return best;
        }

        private static boolean isBefore(int palette, int other) {
            int different = palette ^ other;
            int lowest = different & -different;
            return (palette & lowest) != 0;
        }

        int memberAt(int palette, int position) {
            int before = 0;
            for (int member = 0; member < count; member++) {
                if ((palette >> member & 1) != 0) {
                    if (before == position) {
                        return member;
                    }
                    before++;
                }
            }
            return 0;
        }

        int errorBySearch(int size) {
            return searchFrom(this, 0, size, 0, BEYOND_ALL);
        }

        private static int searchFrom(Palettes palettes, int colour, int left, int taken, int least) {
            if (left == 0) {
                return Math.min(least, palettes.errorOf(taken));
            }
            if (colour < 0 || colour >= palettes.count || left > palettes.count - colour) {
                return least;
            }
            int undecided = (1 << palettes.count) - (1 << colour);
            // Not even all the colours that are left would make it better.
            if (palettes.errorOf(taken | undecided) >= least) {
                return least;
            }
            int withColour = searchFrom(palettes, colour + 1, left - 1, taken | 1 << colour, least);
            return searchFrom(palettes, colour + 1, left, taken, withColour);
        }
    }

    /** The commands of scripts and their forms, where # stands for a number and @ for a metric. */
    private enum Command {
        FIND("find #/#/# #"),
        REPORT("report #/#/# # #"),
        DROP("drop #"),
        DISCARD("discard #"),
        METRIC("metric @"),
        RETURN("return # #"),
        SETTLE("settle"),
        MIX("mix # #"),
        ONE_DAY("day"),
        DAYS("day #");

        final String form;

        Command(String form) {
            this.form = form;
        }
    }

    /** The script buffer, and the commands of the script that was parsed last. */
    private static final class Script {
        private static final int MAX_LENGTH = 60;
        // The shortest command has three characters and a separator, so a full buffer holds fifteen.
        private static final int MAX_COMMANDS = 16;
        private static final int MAX_ARGUMENTS = 5;
        private static final int MAX_DIGITS = 4;

        private final char[] buffer;
        private int length;
        private int cursor;
        final int[] kinds;
        final int[][] arguments;
        int count;

        Script() {
            buffer = new char[MAX_LENGTH];
            kinds = new int[MAX_COMMANDS];
            arguments = new int[MAX_COMMANDS][MAX_ARGUMENTS];
        }

        boolean isFull() {
            return length >= MAX_LENGTH;
        }

        int append(char character) {
            buffer[length] = character;
            length++;
            return length;
        }

        void empty() {
            length = 0;
        }

        /** Returns the error position, or NONE if the buffer has the form of a script. */
        int parse() {
            int start = 0;
            for (int command = 0; command < MAX_COMMANDS; command++) {
                int error = parseCommand(command, start);
                if (error >= 0) {
                    return error;
                }
                if (cursor >= length) {
                    count = command + 1;
                    return NONE;
                }
                start = cursor + 1;
            }
            return length;
        }

        // A character can continue the script if it can continue any of the commands, so the furthest failure counts.
        private int parseCommand(int command, int start) {
            int furthest = start;
            for (int kind = 0; kind < COMMANDS.length; kind++) {
                if (matches(COMMANDS[kind].form, start, arguments[command])) {
                    kinds[command] = kind;
                    return NONE;
                }
                furthest = Math.max(furthest, cursor);
            }
            return furthest;
        }

        // Leaves the cursor behind the command, or at the first character that cannot continue it.
        private boolean matches(String form, int start, int[] values) {
            cursor = start;
            int argument = 0;
            for (int index = 0; index < form.length(); index++) {
                char sign = form.charAt(index);
                if (sign == '#' || sign == '@') {
                    int value = sign == '#' ? readNumber() : readMetric();
                    if (value < 0 || argument >= values.length) {
                        return false;
                    }
                    values[argument] = value;
                    argument++;
                } else if (!readSign(sign)) {
                    return false;
                }
            }
            return cursor >= length || buffer[cursor] == ';';
        }

        private boolean readSign(char sign) {
            if (cursor >= length || buffer[cursor] != sign) {
                return false;
            }
            cursor++;
            return true;
        }

        private int readMetric() {
            if (cursor >= length || !isMetric(buffer[cursor])) {
                return NONE;
            }
            cursor++;
            return buffer[cursor - 1];
        }

        private int readNumber() {
            int value = NONE;
            for (int digits = 0; digits < MAX_DIGITS && isDigitNext(); digits++) {
                value = Math.max(value, 0) * 10 + buffer[cursor] - '0';
                cursor++;
            }
            return value;
        }

        private boolean isDigitNext() {
            return cursor < length && buffer[cursor] >= '0' && buffer[cursor] <= '9';
        }
    }

    /** The output text. */
    private static final class Text {
        // Far more than the longest description: two numbers of ten digits and some fifteen signs.
        private static final int MAX_LENGTH = 64;
        private static final int GREATEST_UNIT = 1000000000;

        final char[] signs;
        int length;

        Text() {
            signs = new char[MAX_LENGTH];
        }

        void start(int[] row, char mark) {
            length = 0;
            putNumber(row[ID]);
            put(mark);
            putNumber(row[RED]);
            put('/');
            putNumber(row[GREEN]);
            put('/');
            putNumber(row[BLUE]);
        }

        void put(char sign) {
            if (length < MAX_LENGTH) {
                signs[length] = sign;
                length++;
            }
        }

        void putNumber(int number) {
            boolean started = false;
            for (int unit = GREATEST_UNIT; unit > 0; unit /= 10) {
                int digit = number / unit % 10;
                if (started || digit > 0 || unit == 1) {
                    put((char) ('0' + digit));
                    started = true;
                }
            }
        }
    }
}
