/**
 * Shadow tag on a moving platform with three lamps.
 *
 * <p>Every act is tried on a spare platform first and taken over only if it succeeds, so that
 * an error leaves everything as it was. All rows are made with the object and used again:
 * no call makes a new one.
 */
public final class ShadowTag {
    /** There is no such runner, lamp, cell or setting. */
    public static final int UNKNOWN = -1;
    /** Another argument is out of range. */
    public static final int BAD_VALUE = -2;
    /** There is no more room. */
    public static final int FULL = -3;
    /** This is not possible. */
    public static final int NOT_POSSIBLE = -4;
    /** There is no such thing; not an error. */
    public static final int NONE = -5;

    private static final int WIDTH = 10;
    private static final int CELLS = WIDTH * WIDTH;
    private static final int SIDES = 4;
    private static final int NO_DIRECTION = 4;
    private static final int RUNNERS = 6;
    private static final int HIGHEST = 5;
    private static final int LAMPS = 3;
    private static final int FARTHEST_REACH = 4;
    private static final int HIGHEST_SETTING = 9;
    private static final int TURNS_AT_ONCE = 99;
    private static final int LAST_TURN = 99999;
    private static final int TEXT_ROOM = 60;
    // The shortest thing has two characters, and a ";" stands between two of them.
    private static final int THINGS = (TEXT_ROOM + 1) / 3;
    private static final int HISTORY_ROOM = 4;
    private static final int FAULT_BASE = -100;
    private static final int NO_FAULT = -1;
    private static final int NO_NUMBER = -1;
    private static final int TEXT_END = -1;

    private final Platform platform = new Platform();
    private final Platform trial = new Platform();
    private final Platform snapshot = new Platform();
    private final History history = new History();
    private final Game game = new Game();
    private final Board board = new Board();
    private boolean hasSnapshot = false;
    private int stopNumber = NONE;
    private int stopError = NONE;

    /** Creates an empty platform. */
    public ShadowTag() {
    }

    // ---- runners, lamps

    /** A runner comes: the number; UNKNOWN (cell); BAD_VALUE; NOT_POSSIBLE; FULL. */
    public int come(int cell, int height) {
        trial.copyFrom(platform);
        return takeOver(trial.runners.welcome(cell, height));
    }

    /** Gives a runner a direction: the previous one, 4 for none; UNKNOWN; BAD_VALUE; NONE. */
    public int head(int runner, int direction) {
        trial.copyFrom(platform);
        return takeOver(trial.runners.steer(runner, direction));
    }

    /** Turns a lamp on, or off: how many are on then; UNKNOWN; NONE. */
    public int light(int lamp, boolean on) {
        trial.copyFrom(platform);
        return takeOver(trial.lamps.switchTo(lamp, on ? 1 : 0));
    }

    /** Sets something of a lamp: the previous value; UNKNOWN (lamp); BAD_VALUE; NONE. */
    public int setLamp(int lamp, int which, int value) {
        trial.copyFrom(platform);
        return takeOver(trial.lamps.adjust(lamp, which, value));
    }

    /** Sets a setting: the previous value; UNKNOWN; BAD_VALUE; NONE. */
    public int set(int which, int value) {
        trial.copyFrom(platform);
        return takeOver(replace(trial.settings, which, value, 0, HIGHEST_SETTING));
    }

    /** Lets turns pass: how many tags there are in them; BAD_VALUE; FULL. */
    public int pass(int turns) {
        trial.copyFrom(platform);
        return takeOver(trial.takeTurns(turns));
    }

    // ---- texts

    /** Types a character behind the text: the length then; FULL. */
    public int type(char character) {
        return game.append(character);
    }

    /** Empties the text: the length that it had. */
    public int clearText() {
        return game.clear();
    }

    /** Does the game of the text: how many things it has; -100 minus the fault; NOT_POSSIBLE. */
    public int perform() {
        int fault = game.read();
        if (fault != NO_FAULT) {
            return FAULT_BASE - fault;
        }
        trial.copyFrom(platform);
        for (int thing = 0; thing < game.things; thing++) {
            int answer = tryThing(thing);
            if (answer < 0 && answer != NONE) {
                stopNumber = thing;
                stopError = answer;
                return NOT_POSSIBLE;
            }
        }
        return takeOver(game.things);
    }

    /** Tells of the latest stop of perform(): its number, or its error; BAD_VALUE; NONE. */
    public int stopped(int what) {
        switch (what) {
            case 0: return stopNumber;
            case 1: return stopError;
            default: return BAD_VALUE;
        }
    }

    // ---- history

    /** Removes and restores the latest state of the history: how many are left; NONE. */
    public int undo() {
        return history.takeBack(platform) ? history.states : NONE;
    }

    /** Takes a snapshot of the state: how many runners there are. */
    public int keep() {
        snapshot.copyFrom(platform);
        hasSnapshot = true;
        return platform.runners.number;
    }

    /** Restores the state of the snapshot: how many runners there are then; NONE. */
    public int restore() {
        if (!hasSnapshot) {
            return NONE;
        }
        trial.copyFrom(snapshot);
        return takeOver(trial.runners.number);
    }

    // ---- what is told

    /** Tells something of a runner; UNKNOWN; BAD_VALUE. */
    public int runner(int runner, int what) {
        Runners runners = platform.runners;
        if (!runners.has(runner)) {
            return UNKNOWN;
        }
        switch (what) {
            case 0: return runners.cell[runner];
            case 1: return runners.height[runner];
            case 2: return runners.direction[runner];
            case 3: return runners.respite[runner];
            case 4: return runners.tagged[runner];
            case 5: return runners.tagging[runner];
            case 6: return runners.account[runner];
            case 7: return cellsInShadowsOf(runner);
            default: return BAD_VALUE;
        }
    }

    /** Tells something of a lamp; UNKNOWN; BAD_VALUE. */
    public int lamp(int lamp, int what) {
        Lamps lamps = platform.lamps;
        if (!isLamp(lamp)) {
            return UNKNOWN;
        }
        switch (what) {
            case 0: return lamps.side[lamp];
            case 1: return lamps.reach[lamp];
            case 2: return lamps.swing[lamp];
            case 3: return lamps.on[lamp];
            case 4: return cellsInShadowsBy(lamp);
            default: return BAD_VALUE;
        }
    }

    /** Tells the shadow of a runner by a lamp; UNKNOWN (runner or lamp); BAD_VALUE; NONE. */
    public int shadow(int runner, int lamp, int what) {
        if (!platform.runners.has(runner) || !isLamp(lamp)) {
            return UNKNOWN;
        }
        switch (what) {
            case 0: return platform.shadowLength(runner, lamp);
            case 1: return platform.shadowEnd(runner, lamp);
            case 2: return platform.runners.standingOn(platform.shadowEnd(runner, lamp));
            default: return BAD_VALUE;
        }
    }

    /** Tells in how many shadows a cell is, shadow by shadow; UNKNOWN. */
    public int darkness(int cell) {
        if (!isCell(cell)) {
            return UNKNOWN;
        }
        int shadows = 0;
        for (int runner = 0; runner < platform.runners.number; runner++) {
            for (int lamp = 0; lamp < LAMPS; lamp++) {
                if (platform.isInShadow(cell, runner, lamp)) {
                    shadows++;
                }
            }
        }
        return shadows;
    }

    /** Tells the same by looking from the cell toward each lamp that is on; UNKNOWN. */
    public int looked(int cell) {
        if (!isCell(cell)) {
            return UNKNOWN;
        }
        int shadows = 0;
        for (int lamp = 0; lamp < LAMPS; lamp++) {
            if (platform.shadowerOf(cell, lamp) != NONE) {
                shadows++;
            }
        }
        return shadows;
    }

    /** Tells who stands on a cell; UNKNOWN; NONE. */
    public int at(int cell) {
        return isCell(cell) ? platform.runners.standingOn(cell) : UNKNOWN;
    }

    /** Tells why a runner would not be tagged if nobody went: 1 to 5, 0 if he would; UNKNOWN. */
    public int reason(int runner) {
        Runners runners = platform.runners;
        if (!runners.has(runner)) {
            return UNKNOWN;
        }
        if (runner == runners.catcher) {
            return 1;
        }
        if (!platform.hasShadow(runner)) {
            return 2;
        }
        if (runners.respite[runner] != 0) {
            return 3;
        }
        if (!platform.catcherStandsInShadowOf(runner)) {
            return 4;
        }
        return platform.firstCaught() == runner ? 0 : 5;
    }

    /** Tells the catcher's steps into a runner's shadow; UNKNOWN; NOT_POSSIBLE; NONE. */
    public int stepsTo(int runner) {
        Runners runners = platform.runners;
        int catcher = runners.catcher;
        if (!runners.has(runner) || !runners.has(catcher)) {
            return UNKNOWN;
        }
        if (runner == catcher || runners.respite[runner] != 0 || !platform.hasShadow(runner)) {
            return NOT_POSSIBLE;
        }
        board.clear();
        platform.darkenShadowsOf(runner, board);
        for (int other = 0; other < runners.number && other < RUNNERS; other++) {
            if (other != catcher) {
                board.block(runners.cell[other]);
            }
        }
        return board.stepsIntoTheDark(runners.cell[catcher]);
    }

    /** Finds the runner to whom the catcher has the most steps, the lowest; NONE. */
    public int safest() {
        Runners runners = platform.runners;
        if (runners.number < 2) {
            return NONE;
        }
        int best = NONE;
        int most = -1;
        for (int runner = 0; runner < runners.number; runner++) {
            int steps = runner == runners.catcher ? -1 : stepsOrFarthest(runner);
            if (steps > most) {
                best = runner;
                most = steps;
            }
        }
        return best;
    }

    /** Tells what turns would bring: tags, the catcher, the first turn with a tag; BAD_VALUE; NONE. */
    public int ifTurns(int turns, int what) {
        if (turns < 1 || turns > TURNS_AT_ONCE || what < 0 || what > 2) {
            return BAD_VALUE;
        }
        trial.copyFrom(platform);
        int tags = 0;
        int firstTag = NONE;
        for (int turn = 1; turn <= turns; turn++) {
            if (trial.takeTurn()) {
                tags++;
                firstTag = firstTag == NONE ? turn : firstTag;
            }
        }
        switch (what) {
            case 0: return tags;
            case 1: return trial.runners.catcher;
            default: return firstTag;
        }
    }

    /** Counts something of all; BAD_VALUE. */
    public int count(int what) {
        switch (what) {
            case 0: return platform.turn;
            case 1: return platform.runners.number;
            case 2: return platform.runners.catcher;
            case 3: return platform.lamps.burning();
            case 4: return cellsInAnyShadow();
            case 5: return platform.runnersWithoutShadow();
            case 6: return platform.runners.tags;
            case 7: return platform.runners.steps;
            case 8: return platform.runners.stops;
            case 9: return platform.spins;
            case 10: return platform.settings[0];
            case 11: return platform.settings[1];
            case 12: return history.states;
            case 13: return game.length;
            default: return BAD_VALUE;
        }
    }

    // ---- behind the face

    /** Ends an act: takes the trial over, unless its answer is an error or NONE. */
    private int takeOver(int answer) {
        if (answer >= 0) {
            history.record(platform);
            platform.copyFrom(trial);
        }
        return answer;
    }

    private int tryThing(int thing) {
        if (thing < 0 || thing >= THINGS) {
            return NONE;
        }
        int first = game.first[thing];
        int second = game.second[thing];
        switch (game.kind[thing]) {
            case 'r': return trial.runners.welcome(first, second);
            case 'd': return trial.runners.steer(first, second);
            case 'l': return trial.lamps.switchTo(first, second);
            default: return trial.takeTurns(first);
        }
    }

    private int cellsInShadowsOf(int runner) {
        board.clear();
        platform.darkenShadowsOf(runner, board);
        return board.darkCells();
    }

    private int cellsInShadowsBy(int lamp) {
        board.clear();
        for (int runner = 0; runner < platform.runners.number; runner++) {
            platform.darkenShadow(runner, lamp, board);
        }
        return board.darkCells();
    }

    private int cellsInAnyShadow() {
        board.clear();
        for (int runner = 0; runner < platform.runners.number; runner++) {
            platform.darkenShadowsOf(runner, board);
        }
        return board.darkCells();
    }

    /** No way has as many steps as there are cells, so that number stands for the farthest. */
    private int stepsOrFarthest(int runner) {
        int steps = stepsTo(runner);
        return steps < 0 ? CELLS : steps;
    }

    private static boolean isCell(int cell) {
        return cell >= 0 && cell < CELLS;
    }

    private static boolean isLamp(int lamp) {
        return lamp >= 0 && lamp < LAMPS;
    }

    /** Puts a value into a row: the previous one; UNKNOWN (index); BAD_VALUE; NONE if it is there. */
    private static int replace(int[] row, int index, int value, int least, int most) {
        if (index < 0 || index >= row.length) {
            return UNKNOWN;
        }
        if (value < least || value > most) {
            return BAD_VALUE;
        }
        int previous = row[index];
        if (previous == value) {
            return NONE;
        }
        row[index] = value;
        return previous;
    }

    private static void copyRow(int[] from, int[] to) {
        System.arraycopy(from, 0, to, 0, Math.min(from.length, to.length));
    }

    private static int opposite(int side) {
        return (side + 2) % SIDES;
    }

    /** How many cells there are from a cell to the edge that way; 0 for no direction. */
    private static int cellsToEdge(int cell, int direction) {
        switch (direction) {
            case 0: return cell / WIDTH;
            case 1: return WIDTH - 1 - cell % WIDTH;
            case 2: return WIDTH - 1 - cell / WIDTH;
            case 3: return cell % WIDTH;
            default: return 0;
        }
    }

    /** The cell so many cells that way; the caller knows that the edge is not nearer. */
    private static int cellAlong(int cell, int direction, int distance) {
        switch (direction) {
            case 0: return cell - WIDTH * distance;
            case 1: return cell + distance;
            case 2: return cell + WIDTH * distance;
            case 3: return cell - distance;
            default: return cell;
        }
    }

    /** How many cells that way the other cell is; 0 or less if it is not that way. */
    private static int distanceAlong(int from, int to, int direction) {
        int down = to / WIDTH - from / WIDTH;
        int right = to % WIDTH - from % WIDTH;
        switch (direction) {
            case 0: return right == 0 ? -down : 0;
            case 1: return down == 0 ? right : 0;
            case 2: return right == 0 ? down : 0;
            case 3: return down == 0 ? -right : 0;
            default: return 0;
        }
    }

    /** The runners: a row for each thing that is known of them, and what all of them did. */
    private static final class Runners {
        final int[] cell = new int[RUNNERS];
        final int[] height = new int[RUNNERS];
        final int[] direction = new int[RUNNERS];
        final int[] respite = new int[RUNNERS];
        final int[] tagged = new int[RUNNERS];
        final int[] tagging = new int[RUNNERS];
        final int[] account = new int[RUNNERS];
        int number = 0;
        int catcher = NONE;
        int tags = 0;
        int steps = 0;
        int stops = 0;

        void copyFrom(Runners other) {
            copyRow(other.cell, cell);
            copyRow(other.height, height);
            copyRow(other.direction, direction);
            copyRow(other.respite, respite);
            copyRow(other.tagged, tagged);
            copyRow(other.tagging, tagging);
            copyRow(other.account, account);
            number = other.number;
            catcher = other.catcher;
            tags = other.tags;
            steps = other.steps;
            stops = other.stops;
        }

        boolean has(int runner) {
            return runner >= 0 && runner < number && runner < RUNNERS;
        }

        /** Who stands on a cell; NONE if nobody does. */
        int standingOn(int place) {
            for (int runner = 0; runner < number && runner < RUNNERS; runner++) {
                if (cell[runner] == place) {
                    return runner;
                }
            }
            return NONE;
        }

        int welcome(int place, int tall) {
            if (!isCell(place)) {
                return UNKNOWN;
            }
            if (tall < 1 || tall > HIGHEST) {
                return BAD_VALUE;
            }
            if (standingOn(place) != NONE) {
                return NOT_POSSIBLE;
            }
            if (number < 0 || number >= RUNNERS) {
                return FULL;
            }
            int runner = number;
            cell[runner] = place;
            height[runner] = tall;
            direction[runner] = NO_DIRECTION;
            respite[runner] = 0;
            tagged[runner] = 0;
            tagging[runner] = 0;
            account[runner] = 0;
            number++;
            catcher = catcher == NONE ? runner : catcher;
            return runner;
        }

        /** Takes -1 for no direction, as head() does. */
        int steer(int runner, int way) {
            if (!has(runner)) {
                return UNKNOWN;
            }
            if (way < -1 || way >= SIDES) {
                return BAD_VALUE;
            }
            return replace(direction, runner, way == -1 ? NO_DIRECTION : way, 0, NO_DIRECTION);
        }

        void stepAll() {
            for (int runner = 0; runner < number; runner++) {
                step(runner);
            }
        }

        private void step(int runner) {
            if (!has(runner) || direction[runner] == NO_DIRECTION) {
                return;
            }
            int from = cell[runner];
            int way = direction[runner];
            int to = cellAlong(from, way, 1);
            if (cellsToEdge(from, way) == 0 || standingOn(to) != NONE) {
                stops++;
            } else {
                cell[runner] = to;
                steps++;
            }
        }

        /** Makes a tagged runner the catcher; the one who was has a respite. */
        void handOver(int caught, int turnsOfRespite) {
            if (!has(caught) || !has(catcher)) {
                return;
            }
            tagged[caught]++;
            tagging[catcher]++;
            respite[catcher] = turnsOfRespite;
            catcher = caught;
            tags++;
        }

        void shortenRespites() {
            for (int runner = 0; runner < number && runner < RUNNERS; runner++) {
                if (respite[runner] > 0) {
                    respite[runner]--;
                }
            }
        }

        void addToAccounts() {
            for (int runner = 0; runner < number && runner < RUNNERS; runner++) {
                if (runner != catcher) {
                    account[runner]++;
                }
            }
        }

        void spin() {
            for (int runner = 0; runner < number && runner < RUNNERS; runner++) {
                int row = cell[runner] / WIDTH;
                int column = cell[runner] % WIDTH;
                cell[runner] = column * WIDTH + WIDTH - 1 - row;
                if (direction[runner] != NO_DIRECTION) {
                    direction[runner] = (direction[runner] + 1) % SIDES;
                }
            }
        }
    }

    /** The three lamps: a row for each thing that is known of them. */
    private static final class Lamps {
        final int[] side = {0, 1, 2};
        final int[] reach = {1, 1, 1};
        final int[] swing = {0, 0, 0};
        final int[] on = {1, 1, 1};

        void copyFrom(Lamps other) {
            copyRow(other.side, side);
            copyRow(other.reach, reach);
            copyRow(other.swing, swing);
            copyRow(other.on, on);
        }

        /** How many lamps are on. */
        int burning() {
            int sum = 0;
            for (int lamp = 0; lamp < LAMPS; lamp++) {
                sum += on[lamp];
            }
            return sum;
        }

        /** How many lamps are on when this one is on (1) or off (0); UNKNOWN; NONE. */
        int switchTo(int lamp, int onOrOff) {
            int previous = replace(on, lamp, onOrOff, 0, 1);
            return previous < 0 ? previous : burning();
        }

        int adjust(int lamp, int which, int value) {
            if (!isLamp(lamp)) {
                return UNKNOWN;
            }
            switch (which) {
                case 0: return replace(side, lamp, value, 0, SIDES - 1);
                case 1: return replace(reach, lamp, value, 1, FARTHEST_REACH);
                case 2: return replace(swing, lamp, value, 0, HIGHEST_SETTING);
                default: return BAD_VALUE;
            }
        }

        void swingAtTurn(int number) {
            for (int lamp = 0; lamp < LAMPS; lamp++) {
                if (swing[lamp] != 0 && number % swing[lamp] == 0) {
                    side[lamp] = (side[lamp] + 1) % SIDES;
                }
            }
        }
    }

    /** A state: all but the text, the history, the snapshot and the latest stop. */
    private static final class Platform {
        final Runners runners = new Runners();
        final Lamps lamps = new Lamps();
        final int[] settings = {3, 0};
        int turn = 0;
        int spins = 0;

        void copyFrom(Platform other) {
            runners.copyFrom(other.runners);
            lamps.copyFrom(other.lamps);
            copyRow(other.settings, settings);
            turn = other.turn;
            spins = other.spins;
        }

        /** Lets turns pass: the tags in them; BAD_VALUE; FULL. */
        int takeTurns(int turns) {
            if (turns < 1 || turns > TURNS_AT_ONCE) {
                return BAD_VALUE;
            }
            if (turn + turns > LAST_TURN) {
                return FULL;
            }
            int tagsBefore = runners.tags;
            for (int taken = 0; taken < turns; taken++) {
                takeTurn();
            }
            return runners.tags - tagsBefore;
        }

        /** Lets one turn pass, whatever its number: whether there is a tag in it. */
        boolean takeTurn() {
            runners.stepAll();
            int caught = firstCaught();
            if (caught != NONE) {
                runners.handOver(caught, settings[0] + 1);
            }
            runners.shortenRespites();
            runners.addToAccounts();
            turn++;
            lamps.swingAtTurn(turn);
            if (settings[1] != 0 && turn % settings[1] == 0) {
                runners.spin();
                spins++;
            }
            return caught != NONE;
        }

        /** The lowest runner who would be tagged as all stand now; NONE if nobody would. */
        int firstCaught() {
            if (!runners.has(runners.catcher)) {
                return NONE;
            }
            int place = runners.cell[runners.catcher];
            int lowest = NONE;
            for (int lamp = 0; lamp < LAMPS; lamp++) {
                int runner = shadowerOf(place, lamp);
                if (runners.has(runner) && runners.respite[runner] == 0
                    && (lowest == NONE || runner < lowest)) {
                    lowest = runner;
                }
            }
            return lowest;
        }

        boolean catcherStandsInShadowOf(int runner) {
            if (!runners.has(runners.catcher)) {
                return false;
            }
            int place = runners.cell[runners.catcher];
            for (int lamp = 0; lamp < LAMPS; lamp++) {
                if (isInShadow(place, runner, lamp)) {
                    return true;
                }
            }
            return false;
        }

        boolean isInShadow(int place, int runner, int lamp) {
            if (!runners.has(runner) || !isLamp(lamp)) {
                return false;
            }
            int distance = distanceAlong(runners.cell[runner], place, opposite(lamps.side[lamp]));
            return distance > 0 && distance <= shadowLength(runner, lamp);
        }

        /** How many cells a shadow has: it ends at the edge, and with another runner's cell. */
        int shadowLength(int runner, int lamp) {
            if (!runners.has(runner) || !isLamp(lamp) || lamps.on[lamp] == 0) {
                return 0;
            }
            int from = runners.cell[runner];
            int away = opposite(lamps.side[lamp]);
            int length = Math.min(runners.height[runner] * lamps.reach[lamp], cellsToEdge(from, away));
            for (int other = 0; other < runners.number && other < RUNNERS; other++) {
                int distance = distanceAlong(from, runners.cell[other], away);
                if (distance > 0 && distance < length) {
                    length = distance;
                }
            }
            return length;
        }

        /** The last cell of a shadow; NONE if it has no cell. */
        int shadowEnd(int runner, int lamp) {
            int length = shadowLength(runner, lamp);
            if (length == 0 || !runners.has(runner) || !isLamp(lamp)) {
                return NONE;
            }
            return cellAlong(runners.cell[runner], opposite(lamps.side[lamp]), length);
        }

        boolean hasShadow(int runner) {
            for (int lamp = 0; lamp < LAMPS; lamp++) {
                if (shadowLength(runner, lamp) > 0) {
                    return true;
                }
            }
            return false;
        }

        int runnersWithoutShadow() {
            int sum = 0;
            for (int runner = 0; runner < runners.number; runner++) {
                if (!hasShadow(runner)) {
                    sum++;
                }
            }
            return sum;
        }

        /** Whose shadow by a lamp a cell is in: the first one seen toward it, if tall enough. */
        int shadowerOf(int place, int lamp) {
            if (!isCell(place) || !isLamp(lamp) || lamps.on[lamp] == 0) {
                return NONE;
            }
            int toward = lamps.side[lamp];
            int toEdge = cellsToEdge(place, toward);
            for (int distance = 1; distance <= toEdge; distance++) {
                int seen = runners.standingOn(cellAlong(place, toward, distance));
                if (runners.has(seen)) {
                    return distance <= runners.height[seen] * lamps.reach[lamp] ? seen : NONE;
                }
            }
            return NONE;
        }

        void darkenShadowsOf(int runner, Board board) {
            for (int lamp = 0; lamp < LAMPS; lamp++) {
                darkenShadow(runner, lamp, board);
            }
        }

        void darkenShadow(int runner, int lamp, Board board) {
            int length = shadowLength(runner, lamp);
            if (length == 0 || !runners.has(runner) || !isLamp(lamp)) {
                return;
            }
            int from = runners.cell[runner];
            int away = opposite(lamps.side[lamp]);
            for (int distance = 1; distance <= length; distance++) {
                board.darken(cellAlong(from, away, distance));
            }
        }
    }

    /** Marks on the cells, for one call at a time: which are dark, and how the catcher goes. */
    private static final class Board {
        private final boolean[] dark = new boolean[CELLS];
        private final boolean[] barred = new boolean[CELLS];
        private final int[] steps = new int[CELLS];
        private final int[] queue = new int[CELLS];
        private int queued = 0;

        void clear() {
            queued = 0;
            for (int cell = 0; cell < CELLS; cell++) {
                dark[cell] = false;
                barred[cell] = false;
            }
        }

        void darken(int cell) {
            if (isCell(cell)) {
                dark[cell] = true;
            }
        }

        /** Bars a cell to the catcher. */
        void block(int cell) {
            if (isCell(cell)) {
                barred[cell] = true;
            }
        }

        int darkCells() {
            int sum = 0;
            for (int cell = 0; cell < CELLS; cell++) {
                if (dark[cell]) {
                    sum++;
                }
            }
            return sum;
        }

        /** The fewest steps from a cell to a dark one around those barred; NONE without a way. */
        int stepsIntoTheDark(int start) {
            enter(start, 0);
            for (int taken = 0; taken < queued && taken < CELLS; taken++) {
                int cell = queue[taken];
                if (!isCell(cell)) {
                    return NONE;
                }
                if (dark[cell]) {
                    return steps[cell];
                }
                for (int direction = 0; direction < SIDES; direction++) {
                    if (cellsToEdge(cell, direction) > 0) {
                        enter(cellAlong(cell, direction, 1), steps[cell] + 1);
                    }
                }
            }
            return NONE;
        }

        /** Queues a cell once: it is barred from then on. */
        private void enter(int cell, int stepsToIt) {
            if (isCell(cell) && !barred[cell] && queued < CELLS) {
                barred[cell] = true;
                steps[cell] = stepsToIt;
                queue[queued] = cell;
                queued++;
            }
        }
    }

    /** The text, and the things that it tells when it is read as a game. */
    private static final class Game {
        private final char[] signs = new char[TEXT_ROOM];
        int length = 0;
        private int position = 0;
        final int[] kind = new int[THINGS];
        final int[] first = new int[THINGS];
        final int[] second = new int[THINGS];
        int things = 0;

        int append(char sign) {
            if (length < 0 || length >= TEXT_ROOM) {
                return FULL;
            }
            signs[length] = sign;
            length++;
            return length;
        }

        int clear() {
            int previous = length;
            length = 0;
            return previous;
        }

        /** Reads the text: its fault, or NO_FAULT. Only what is allowed is read past. */
        int read() {
            position = 0;
            things = 0;
            for (int thing = 0; thing < THINGS; thing++) {
                if (!readThing(thing)) {
                    return position;
                }
                things = thing + 1;
                if (position >= length) {
                    return NO_FAULT;
                }
                if (!readSign(';')) {
                    return position;
                }
            }
            return position;
        }

        private boolean readThing(int thing) {
            int sign = nextSign();
            switch (sign) {
                case 'r':
                    return readAs(sign, kind, thing) && readNumber(first, thing, 0, CELLS - 1)
                        && readSign('h') && readNumber(second, thing, 1, HIGHEST);
                case 'd':
                    return readAs(sign, kind, thing) && readNumber(first, thing, 0, RUNNERS - 1)
                        && readDirection(thing);
                case 'l':
                    return readAs(sign, kind, thing) && readNumber(first, thing, 0, LAMPS - 1)
                        && readOnOrOff(thing);
                case '.':
                    return readAs(sign, kind, thing) && readNumber(first, thing, 1, TURNS_AT_ONCE);
                default:
                    return false;
            }
        }

        /** Reads a number into a row; a digit that would make it too great is left unread. */
        private boolean readNumber(int[] row, int thing, int least, int most) {
            int number = nextDigit();
            if (number < least || number > most || !readAs(number, row, thing)) {
                return false;
            }
            // No number has more than two digits, and none begins with 0 but 0 itself.
            int next = nextDigit();
            if (number > 0 && next != NO_NUMBER && number * 10 + next <= most) {
                return readAs(number * 10 + next, row, thing);
            }
            return true;
        }

        private boolean readDirection(int thing) {
            switch (nextSign()) {
                case 'n': return readAs(0, second, thing);
                case 'e': return readAs(1, second, thing);
                case 's': return readAs(2, second, thing);
                case 'w': return readAs(3, second, thing);
                case '-': return readAs(-1, second, thing);
                default: return false;
            }
        }

        private boolean readOnOrOff(int thing) {
            switch (nextSign()) {
                case '+': return readAs(1, second, thing);
                case '-': return readAs(0, second, thing);
                default: return false;
            }
        }

        /** Reads past the next sign, and puts what it means into a row. */
        private boolean readAs(int meaning, int[] row, int thing) {
            if (thing < 0 || thing >= row.length) {
                return false;
            }
            row[thing] = meaning;
            position++;
            return true;
        }

        private boolean readSign(int wanted) {
            if (nextSign() != wanted) {
                return false;
            }
            position++;
            return true;
        }

        private int nextDigit() {
            int sign = nextSign();
            return sign >= '0' && sign <= '9' ? sign - '0' : NO_NUMBER;
        }

        private int nextSign() {
            return position >= 0 && position < length && position < TEXT_ROOM ? signs[position] : TEXT_END;
        }
    }

    /** The latest states, in a ring: the oldest one gives its place to one more. */
    private static final class History {
        private final Platform[] ring = new Platform[HISTORY_ROOM];
        private int oldest = 0;
        int states = 0;

        History() {
            for (int place = 0; place < HISTORY_ROOM; place++) {
                ring[place] = new Platform();
            }
        }

        void record(Platform state) {
            Platform place = ringPlace(oldest + states);
            if (place == null) {
                return;
            }
            place.copyFrom(state);
            if (states < HISTORY_ROOM) {
                states++;
            } else {
                oldest = (oldest + 1) % HISTORY_ROOM;
            }
        }

        /** The place so far along the ring, which has no end; null ahead of its beginning. */
        private Platform ringPlace(int along) {
            return along < 0 ? null : ring[along % HISTORY_ROOM];
        }

        /** Removes the latest state and puts it into another; false if there is none. */
        boolean takeBack(Platform into) {
            if (states == 0) {
                return false;
            }
            Platform latest = ringPlace(oldest + states - 1);
            if (latest == null) {
                return false;
            }
            states--;
            into.copyFrom(latest);
            return true;
        }
    }
}
