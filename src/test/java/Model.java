import java.util.ArrayDeque;
import java.util.ArrayList;
import java.util.Arrays;
import java.util.HashMap;
import java.util.HashSet;
import java.util.List;
import java.util.Map;
import java.util.Set;
import java.util.TreeSet;
import java.util.regex.Matcher;
import java.util.regex.Pattern;

/**
 * The document told a second time, as plainly as the Java library allows: shadows as lists of
 * cells, the text as a regular expression, each state copied whole. ModelTest compares it with
 * ShadowTag.
 */
final class Model {
    private static final int UNKNOWN = -1, BAD_VALUE = -2, FULL = -3, NOT_POSSIBLE = -4, NONE = -5;
    private static final int[] DOWN = {-1, 0, 1, 0};
    private static final int[] RIGHT = {0, 1, 0, -1};
    private static final String THING =
        "(?:r(?:0|[1-9][0-9]?)h[1-5]|d[0-5][-nesw]|l[0-2][-+]|\\.[1-9][0-9]?)";
    private static final Pattern GAME = Pattern.compile(THING + "(?:;" + THING + ")*");

    private static final class Person {
        int row, column, height, direction = 4, respite, tagged, tagging, account;

        Person copy() {
            Person other = new Person();
            other.row = row;
            other.column = column;
            other.height = height;
            other.direction = direction;
            other.respite = respite;
            other.tagged = tagged;
            other.tagging = tagging;
            other.account = account;
            return other;
        }

        int cell() {
            return row * 10 + column;
        }
    }

    private static final class State {
        List<Person> people = new ArrayList<>();
        int[][] lamps = {{0, 1, 0, 1}, {1, 1, 0, 1}, {2, 1, 0, 1}};
        int[] settings = {3, 0};
        int catcher = NONE, turn, tags, steps, stops, spins;

        State copy() {
            State other = new State();
            for (Person person : people) {
                other.people.add(person.copy());
            }
            for (int lamp = 0; lamp < 3; lamp++) {
                other.lamps[lamp] = lamps[lamp].clone();
            }
            other.settings = settings.clone();
            other.catcher = catcher;
            other.turn = turn;
            other.tags = tags;
            other.steps = steps;
            other.stops = stops;
            other.spins = spins;
            return other;
        }

        int who(int row, int column) {
            for (int i = 0; i < people.size(); i++) {
                if (people.get(i).row == row && people.get(i).column == column) {
                    return i;
                }
            }
            return NONE;
        }

        List<Integer> shadow(int runner, int lamp) {
            List<Integer> cells = new ArrayList<>();
            Person person = people.get(runner);
            int away = new int[] {2, 3, 0, 1}[lamps[lamp][0]];
            int row = person.row;
            int column = person.column;
            while (lamps[lamp][3] == 1 && cells.size() < person.height * lamps[lamp][1]) {
                row += DOWN[away];
                column += RIGHT[away];
                if (row < 0 || row > 9 || column < 0 || column > 9) {
                    break;
                }
                cells.add(row * 10 + column);
                if (who(row, column) != NONE) {
                    break;
                }
            }
            return cells;
        }

        Set<Integer> shadows(int runner) {
            Set<Integer> cells = new TreeSet<>();
            for (int lamp = 0; lamp < 3; lamp++) {
                cells.addAll(shadow(runner, lamp));
            }
            return cells;
        }

        List<Integer> caught() {
            List<Integer> all = new ArrayList<>();
            for (int i = 0; i < people.size(); i++) {
                if (people.get(i).respite == 0 && shadows(i).contains(people.get(catcher).cell())) {
                    all.add(i);
                }
            }
            return all;
        }

        int come(int cell, int height) {
            if (cell < 0 || cell > 99) {
                return UNKNOWN;
            }
            if (height < 1 || height > 5) {
                return BAD_VALUE;
            }
            if (who(cell / 10, cell % 10) != NONE) {
                return NOT_POSSIBLE;
            }
            if (people.size() == 6) {
                return FULL;
            }
            Person person = new Person();
            person.row = cell / 10;
            person.column = cell % 10;
            person.height = height;
            people.add(person);
            if (people.size() == 1) {
                catcher = 0;
            }
            return people.size() - 1;
        }

        int head(int runner, int direction) {
            if (runner < 0 || runner >= people.size()) {
                return UNKNOWN;
            }
            if (direction < -1 || direction > 3) {
                return BAD_VALUE;
            }
            Person person = people.get(runner);
            int before = person.direction;
            person.direction = direction < 0 ? 4 : direction;
            return before == person.direction ? NONE : before;
        }

        int light(int lamp, boolean on) {
            if (lamp < 0 || lamp > 2) {
                return UNKNOWN;
            }
            if ((lamps[lamp][3] == 1) == on) {
                return NONE;
            }
            lamps[lamp][3] = on ? 1 : 0;
            return lamps[0][3] + lamps[1][3] + lamps[2][3];
        }

        int setLamp(int lamp, int which, int value) {
            if (lamp < 0 || lamp > 2) {
                return UNKNOWN;
            }
            int[][] ranges = {{0, 3}, {1, 4}, {0, 9}};
            if (which < 0 || which > 2 || value < ranges[which][0] || value > ranges[which][1]) {
                return BAD_VALUE;
            }
            int before = lamps[lamp][which];
            lamps[lamp][which] = value;
            return before == value ? NONE : before;
        }

        int set(int which, int value) {
            if (which != 0 && which != 1) {
                return UNKNOWN;
            }
            if (value < 0 || value > 9) {
                return BAD_VALUE;
            }
            int before = settings[which];
            settings[which] = value;
            return before == value ? NONE : before;
        }

        int pass(int turns) {
            if (turns < 1 || turns > 99) {
                return BAD_VALUE;
            }
            if (turn + turns > 99999) {
                return FULL;
            }
            int before = tags;
            for (int i = 0; i < turns; i++) {
                turn();
            }
            return tags - before;
        }

        void turn() {
            for (Person person : people) {
                if (person.direction < 4) {
                    int row = person.row + DOWN[person.direction];
                    int column = person.column + RIGHT[person.direction];
                    if (row < 0 || column < 0 || row > 9 || column > 9 || who(row, column) != NONE) {
                        stops++;
                    } else {
                        person.row = row;
                        person.column = column;
                        steps++;
                    }
                }
            }
            List<Integer> all = caught();
            if (!all.isEmpty()) {
                people.get(catcher).respite = settings[0] + 1;
                people.get(catcher).tagging++;
                catcher = all.get(0);
                people.get(catcher).tagged++;
                tags++;
            }
            for (Person person : people) {
                person.respite = Math.max(0, person.respite - 1);
                person.account += person == people.get(catcher) ? 0 : 1;
            }
            turn++;
            for (int[] lamp : lamps) {
                if (lamp[2] > 0 && turn % lamp[2] == 0) {
                    lamp[0] = lamp[0] == 3 ? 0 : lamp[0] + 1;
                }
            }
            if (settings[1] > 0 && turn % settings[1] == 0) {
                spins++;
                for (Person person : people) {
                    int row = person.row;
                    person.row = person.column;
                    person.column = 9 - row;
                    person.direction = new int[] {1, 2, 3, 0, 4}[person.direction];
                }
            }
        }
    }

    private State state = new State();
    private State snapshot = null;
    private final List<State> history = new ArrayList<>();
    private String text = "";
    private int[] stop = null;

    private int act(State next, int answer) {
        if (answer >= 0) {
            history.add(state);
            if (history.size() > 4) {
                history.remove(0);
            }
            state = next;
        }
        return answer;
    }

    int come(int cell, int height) {
        State next = state.copy();
        return act(next, next.come(cell, height));
    }

    int head(int runner, int direction) {
        State next = state.copy();
        return act(next, next.head(runner, direction));
    }

    int light(int lamp, boolean on) {
        State next = state.copy();
        return act(next, next.light(lamp, on));
    }

    int setLamp(int lamp, int which, int value) {
        State next = state.copy();
        return act(next, next.setLamp(lamp, which, value));
    }

    int set(int which, int value) {
        State next = state.copy();
        return act(next, next.set(which, value));
    }

    int pass(int turns) {
        State next = state.copy();
        return act(next, next.pass(turns));
    }

    int type(char character) {
        if (text.length() == 60) {
            return FULL;
        }
        text += character;
        return text.length();
    }

    int clearText() {
        int before = text.length();
        text = "";
        return before;
    }

    /** The length of the longest beginning that some game has too. */
    private int fault() {
        int place = 0;
        while (place < text.length()) {
            Matcher matcher = GAME.matcher(text.substring(0, place + 1));
            if (!matcher.matches() && !matcher.hitEnd()) {
                break;
            }
            place++;
        }
        return place;
    }

    int perform() {
        if (!GAME.matcher(text).matches()) {
            return -100 - fault();
        }
        State next = state.copy();
        String[] things = text.split(";");
        for (int number = 0; number < things.length; number++) {
            int answer = perform(next, things[number]);
            if (answer < 0 && answer != NONE) {
                stop = new int[] {number, answer};
                return NOT_POSSIBLE;
            }
        }
        return act(next, things.length);
    }

    private static int perform(State next, String thing) {
        String rest = thing.substring(1);
        switch (thing.charAt(0)) {
            case 'r': {
                String[] numbers = rest.split("h");
                return next.come(Integer.parseInt(numbers[0]), Integer.parseInt(numbers[1]));
            }
            case 'd': return next.head(rest.charAt(0) - '0', "nesw".indexOf(rest.charAt(1)));
            case 'l': return next.light(rest.charAt(0) - '0', rest.charAt(1) == '+');
            default: return next.pass(Integer.parseInt(rest));
        }
    }

    int stopped(int what) {
        if (what != 0 && what != 1) {
            return BAD_VALUE;
        }
        return stop == null ? NONE : stop[what];
    }

    int undo() {
        if (history.isEmpty()) {
            return NONE;
        }
        state = history.remove(history.size() - 1);
        return history.size();
    }

    int keep() {
        snapshot = state.copy();
        return state.people.size();
    }

    int restore() {
        if (snapshot == null) {
            return NONE;
        }
        return act(snapshot.copy(), snapshot.people.size());
    }

    private boolean unknown(int runner) {
        return runner < 0 || runner >= state.people.size();
    }

    int runner(int runner, int what) {
        if (unknown(runner)) {
            return UNKNOWN;
        }
        if (what < 0 || what > 7) {
            return BAD_VALUE;
        }
        Person p = state.people.get(runner);
        return new int[] {p.cell(), p.height, p.direction, p.respite, p.tagged, p.tagging, p.account,
            state.shadows(runner).size()}[what];
    }

    int lamp(int lamp, int what) {
        if (lamp < 0 || lamp > 2) {
            return UNKNOWN;
        }
        if (what < 0 || what > 4) {
            return BAD_VALUE;
        }
        Set<Integer> cells = new HashSet<>();
        for (int runner = 0; runner < state.people.size(); runner++) {
            cells.addAll(state.shadow(runner, lamp));
        }
        return what == 4 ? cells.size() : state.lamps[lamp][what];
    }

    int shadow(int runner, int lamp, int what) {
        if (unknown(runner) || lamp < 0 || lamp > 2) {
            return UNKNOWN;
        }
        if (what < 0 || what > 2) {
            return BAD_VALUE;
        }
        List<Integer> cells = state.shadow(runner, lamp);
        if (what == 0 || cells.isEmpty()) {
            return what == 0 ? cells.size() : NONE;
        }
        int last = cells.get(cells.size() - 1);
        return what == 1 ? last : state.who(last / 10, last % 10);
    }

    int darkness(int cell) {
        if (cell < 0 || cell > 99) {
            return UNKNOWN;
        }
        int sum = 0;
        for (int runner = 0; runner < state.people.size(); runner++) {
            for (int lamp = 0; lamp < 3; lamp++) {
                sum += state.shadow(runner, lamp).contains(cell) ? 1 : 0;
            }
        }
        return sum;
    }

    int looked(int cell) {
        return darkness(cell);
    }

    int at(int cell) {
        return cell < 0 || cell > 99 ? UNKNOWN : state.who(cell / 10, cell % 10);
    }

    int reason(int runner) {
        if (unknown(runner)) {
            return UNKNOWN;
        }
        Set<Integer> shadows = state.shadows(runner);
        boolean[] holds = {
            runner == state.catcher,
            shadows.isEmpty(),
            state.people.get(runner).respite > 0,
            !shadows.contains(state.people.get(state.catcher).cell()),
            !state.caught().isEmpty() && state.caught().get(0) < runner,
        };
        for (int number = 0; number < holds.length; number++) {
            if (holds[number]) {
                return number + 1;
            }
        }
        return 0;
    }

    int stepsTo(int runner) {
        if (unknown(runner)) {
            return UNKNOWN;
        }
        Set<Integer> goals = state.shadows(runner);
        if (runner == state.catcher || state.people.get(runner).respite > 0 || goals.isEmpty()) {
            return NOT_POSSIBLE;
        }
        int start = state.people.get(state.catcher).cell();
        Map<Integer, Integer> far = new HashMap<>(Map.of(start, 0));
        ArrayDeque<Integer> waiting = new ArrayDeque<>(List.of(start));
        while (!waiting.isEmpty()) {
            int cell = waiting.remove();
            if (goals.contains(cell)) {
                return far.get(cell);
            }
            for (int way = 0; way < 4; way++) {
                int row = cell / 10 + DOWN[way];
                int column = cell % 10 + RIGHT[way];
                int next = row * 10 + column;
                if (row >= 0 && row < 10 && column >= 0 && column < 10
                    && state.who(row, column) == NONE && !far.containsKey(next)) {
                    far.put(next, far.get(cell) + 1);
                    waiting.add(next);
                }
            }
        }
        return NONE;
    }

    int safest() {
        if (state.people.size() < 2) {
            return NONE;
        }
        long[] far = new long[state.people.size()];
        for (int runner = 0; runner < far.length; runner++) {
            int steps = stepsTo(runner);
            far[runner] = runner == state.catcher ? -1 : steps < 0 ? Long.MAX_VALUE : steps;
        }
        long most = Arrays.stream(far).max().getAsLong();
        int runner = 0;
        while (far[runner] != most) {
            runner++;
        }
        return runner;
    }

    int ifTurns(int turns, int what) {
        if (turns < 1 || turns > 99 || what < 0 || what > 2) {
            return BAD_VALUE;
        }
        State next = state.copy();
        int first = NONE;
        for (int turn = 1; turn <= turns; turn++) {
            next.turn();
            if (first == NONE && next.tags > state.tags) {
                first = turn;
            }
        }
        return new int[] {next.tags - state.tags, next.catcher, first}[what];
    }

    int count(int what) {
        if (what < 0 || what > 13) {
            return BAD_VALUE;
        }
        Set<Integer> dark = new HashSet<>();
        int without = 0;
        for (int runner = 0; runner < state.people.size(); runner++) {
            dark.addAll(state.shadows(runner));
            without += state.shadows(runner).isEmpty() ? 1 : 0;
        }
        int burning = state.lamps[0][3] + state.lamps[1][3] + state.lamps[2][3];
        return new int[] {state.turn, state.people.size(), state.catcher, burning, dark.size(), without,
            state.tags, state.steps, state.stops, state.spins, state.settings[0], state.settings[1],
            history.size(), text.length()}[what];
    }
}
