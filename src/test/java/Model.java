import java.util.ArrayDeque;
import java.util.ArrayList;
import java.util.Comparator;
import java.util.Deque;
import java.util.List;
import java.util.Optional;
import java.util.TreeMap;
import java.util.TreeSet;
import java.util.regex.Matcher;
import java.util.regex.Pattern;
import java.util.stream.IntStream;

/**
 * The document once more, written in another way than the class: states are copied whole,
 * what would happen is tried on a copy, and texts are read by a pattern.
 */
final class Model {
    private static final int UNKNOWN = -1;
    private static final int BAD_VALUE = -2;
    private static final int FULL = -3;
    private static final int NOT_POSSIBLE = -4;
    private static final int NONE = -5;

    private static final String CELL = "(?:[0-9]|[1-3][0-9])";
    private static final String THING = "(?:w[0-4][0-9]=(?:0|[1-9][0-9]?[0-9]?[0-9]?)|[fp][0-4][0-9]|[eh]" + CELL
        + "|s|\\.[1-9][0-9]?)";
    private static final Pattern TEXT = Pattern.compile(THING + "(?:;" + THING + ")*");

    private static final class Page {
        int cell;
        int value;
        boolean pinned;
    }

    private static final class State {
        final TreeMap<Integer, Page> pages = new TreeMap<>();
        final TreeMap<Integer, Integer> movesSinceGiven = new TreeMap<>();
        final TreeMap<Integer, Integer> errors = new TreeMap<>();
        final TreeSet<Integer> retired = new TreeSet<>();
        final List<Integer> list = new ArrayList<>();
        final int[] settings = {3, 10, 0};
        final int[] lost = new int[5];
        final int[] moves = new int[5];
        int day;
        int behind;
        int errorsSoFar;
        int hardErrorsSoFar;
        int movesSoFar;
        int lostSoFar;
        int starts;

        State copy() {
            State other = new State();
            pages.forEach((key, page) -> {
                Page twin = new Page();
                twin.cell = page.cell;
                twin.value = page.value;
                twin.pinned = page.pinned;
                other.pages.put(key, twin);
            });
            other.movesSinceGiven.putAll(movesSinceGiven);
            other.errors.putAll(errors);
            other.retired.addAll(retired);
            other.list.addAll(list);
            System.arraycopy(settings, 0, other.settings, 0, 3);
            System.arraycopy(lost, 0, other.lost, 0, 5);
            System.arraycopy(moves, 0, other.moves, 0, 5);
            other.day = day;
            other.behind = behind;
            other.errorsSoFar = errorsSoFar;
            other.hardErrorsSoFar = hardErrorsSoFar;
            other.movesSoFar = movesSoFar;
            other.lostSoFar = lostSoFar;
            other.starts = starts;
            return other;
        }

        int errorsOf(int cell) {
            return errors.getOrDefault(cell, 0);
        }

        boolean bad(int cell) {
            return errorsOf(cell) >= settings[0];
        }

        Integer user(int cell) {
            return pages.entrySet().stream().filter(e -> e.getValue().cell == cell).map(e -> e.getKey())
                .findFirst().orElse(null);
        }

        boolean free(int cell) {
            return !retired.contains(cell) && user(cell) == null;
        }

        Optional<Integer> choose(List<Integer> among) {
            Comparator<Integer> order = Comparator.naturalOrder();
            if (settings[2] == 1) {
                order = Comparator.<Integer>comparingInt(this::errorsOf).thenComparing(Comparator.naturalOrder());
            } else if (settings[2] == 2) {
                order = Comparator.comparingInt(cell -> Math.floorMod(cell - behind, 40));
            }
            return among.stream().min(order);
        }

        List<Integer> cells(java.util.function.IntPredicate that) {
            return IntStream.range(0, 40).filter(that).boxed().toList();
        }

        void given(int cell) {
            behind = (cell + 1) % 40;
        }

        void toList(int cell) {
            retired.add(cell);
            if (list.size() < 12) {
                list.add(cell);
            }
        }

        void look() {
            for (int cell = 0; cell < 40; cell++) {
                if (retired.contains(cell) || !bad(cell)) {
                    continue;
                }
                Integer user = user(cell);
                if (user != null) {
                    int self = cell;
                    Optional<Integer> other = choose(cells(c -> c != self && free(c) && !bad(c)));
                    if (pages.get(user).pinned || other.isEmpty()) {
                        continue;
                    }
                    pages.get(user).cell = other.get();
                    given(other.get());
                    movesSinceGiven.merge(user, 1, Integer::sum);
                    moves[user / 10]++;
                    movesSoFar++;
                }
                toList(cell);
            }
        }
    }

    private State now = new State();
    private final Deque<State> history = new ArrayDeque<>();
    private State snapshot;
    private String text = "";
    private int stoppedThing = NONE;
    private int stoppedError = NONE;

    private interface Act {
        int on(State state);
    }

    private static boolean pageThere(int program, int page) {
        return program >= 0 && program < 5 && page >= 0 && page < 10;
    }

    private static boolean cellThere(int cell) {
        return cell >= 0 && cell < 40;
    }

    /** Tries an act on a copy, which takes the state's place unless the act was refused. */
    private int act(Act act) {
        State next = now.copy();
        int answer = act.on(next);
        if (answer >= 0) {
            history.addLast(now);
            if (history.size() > 4) {
                history.removeFirst();
            }
            now = next;
        }
        return answer;
    }

    private static int doWrite(State s, int key, int value) {
        if (!s.pages.containsKey(key)) {
            Optional<Integer> cell = s.choose(s.cells(s::free));
            if (cell.isEmpty()) {
                return FULL;
            }
            Page page = new Page();
            page.cell = cell.get();
            s.pages.put(key, page);
            s.movesSinceGiven.put(key, 0);
            s.given(page.cell);
        }
        s.pages.get(key).value = value;
        s.look();
        return s.pages.get(key).cell;
    }

    private static int doGiveBack(State s, int key) {
        Page page = s.pages.remove(key);
        if (page == null) {
            return NONE;
        }
        s.look();
        return page.value;
    }

    private static int doPin(State s, int key, Boolean pinned) {
        Page page = s.pages.get(key);
        if (page == null) {
            return NOT_POSSIBLE;
        }
        boolean wanted = pinned == null ? !page.pinned : pinned;
        if (page.pinned == wanted) {
            return NONE;
        }
        page.pinned = wanted;
        s.look();
        return (int) s.pages.values().stream().filter(p -> p.pinned).count();
    }

    private static int doError(State s, int cell) {
        if (s.retired.contains(cell)) {
            return NOT_POSSIBLE;
        }
        int before = s.retired.size();
        s.errors.merge(cell, 1, Integer::sum);
        s.errorsSoFar++;
        s.look();
        return s.retired.size() - before;
    }

    private static int doHardError(State s, int cell) {
        if (s.retired.contains(cell)) {
            return NOT_POSSIBLE;
        }
        int value = 10000;
        Integer user = s.user(cell);
        if (user != null) {
            value = s.pages.remove(user).value;
            s.lost[user / 10]++;
            s.lostSoFar++;
        }
        s.hardErrorsSoFar++;
        s.toList(cell);
        s.look();
        return value;
    }

    private static int doStart(State s) {
        s.pages.clear();
        s.errors.clear();
        s.retired.clear();
        s.retired.addAll(s.list);
        s.starts++;
        s.look();
        return s.cells(s::free).size();
    }

    private static int doPass(State s, int days) {
        if (s.day + days > 9999) {
            return FULL;
        }
        for (int i = 0; i < days; i++) {
            s.day++;
            if (s.day % s.settings[1] == 0) {
                s.errors.replaceAll((cell, n) -> s.retired.contains(cell) ? n : Math.max(0, n - 1));
            }
        }
        s.look();
        return waiting(s);
    }

    private static int waiting(State s) {
        return s.cells(c -> s.bad(c) && !s.retired.contains(c)).size();
    }

    int write(int program, int page, int value) {
        if (!pageThere(program, page)) {
            return UNKNOWN;
        }
        return value < 0 || value > 9999 ? BAD_VALUE : act(s -> doWrite(s, program * 10 + page, value));
    }

    int giveBack(int program, int page) {
        return pageThere(program, page) ? act(s -> doGiveBack(s, program * 10 + page)) : UNKNOWN;
    }

    int pin(int program, int page, boolean pinned) {
        return pageThere(program, page) ? act(s -> doPin(s, program * 10 + page, pinned)) : UNKNOWN;
    }

    int error(int cell) {
        return cellThere(cell) ? act(s -> doError(s, cell)) : UNKNOWN;
    }

    int hardError(int cell) {
        return cellThere(cell) ? act(s -> doHardError(s, cell)) : UNKNOWN;
    }

    int start() {
        return act(Model::doStart);
    }

    int pass(int days) {
        return days < 1 || days > 99 ? BAD_VALUE : act(s -> doPass(s, days));
    }

    int set(int which, int value) {
        int[] lowest = {1, 1, 0};
        int[] highest = {20, 99, 2};
        if (which < 0 || which > 2) {
            return UNKNOWN;
        }
        if (value < lowest[which] || value > highest[which]) {
            return BAD_VALUE;
        }
        return act(s -> {
            int previous = s.settings[which];
            if (previous == value) {
                return NONE;
            }
            s.settings[which] = value;
            s.look();
            return previous;
        });
    }

    int type(char character) {
        if (text.length() == 60) {
            return FULL;
        }
        text += character;
        return text.length();
    }

    int clearText() {
        int length = text.length();
        text = "";
        return length;
    }

    /** The end of the longest beginning of the text from which a right text can go on; NONE if it is right. */
    private int fault() {
        for (int end = 1; end <= text.length(); end++) {
            Matcher matcher = TEXT.matcher(text.substring(0, end));
            if (!matcher.matches() && !matcher.hitEnd()) {
                return end - 1;
            }
        }
        return TEXT.matcher(text).matches() ? NONE : text.length();
    }

    private static int doThing(State s, String thing) {
        String rest = thing.substring(1);
        switch (thing.charAt(0)) {
            case 'w':
                return doWrite(s, Integer.parseInt(rest.substring(0, 2)), Integer.parseInt(rest.substring(3)));
            case 'f':
                return doGiveBack(s, Integer.parseInt(rest));
            case 'p':
                return doPin(s, Integer.parseInt(rest), null);
            case 'e':
                return doError(s, Integer.parseInt(rest));
            case 'h':
                return doHardError(s, Integer.parseInt(rest));
            case 's':
                return doStart(s);
            default:
                return doPass(s, Integer.parseInt(rest));
        }
    }

    int perform() {
        int fault = fault();
        if (fault >= 0) {
            return -100 - fault;
        }
        return act(s -> {
            String[] things = text.split(";");
            for (int i = 0; i < things.length; i++) {
                int answer = doThing(s, things[i]);
                if (answer < 0 && answer != NONE) {
                    stoppedThing = i;
                    stoppedError = answer;
                    return NOT_POSSIBLE;
                }
                s.look();
            }
            return things.length;
        });
    }

    int stopped(int what) {
        return what == 0 ? stoppedThing : what == 1 ? stoppedError : BAD_VALUE;
    }

    int undo() {
        if (history.isEmpty()) {
            return NONE;
        }
        now = history.removeLast();
        return history.size();
    }

    int keep() {
        snapshot = now.copy();
        return now.retired.size();
    }

    int restore() {
        if (snapshot == null) {
            return NONE;
        }
        history.addLast(now);
        if (history.size() > 4) {
            history.removeFirst();
        }
        now = snapshot.copy();
        return now.retired.size();
    }

    int page(int program, int page, int what) {
        if (!pageThere(program, page)) {
            return UNKNOWN;
        }
        Page it = now.pages.get(program * 10 + page);
        return switch (what) {
            case 0 -> it == null ? NONE : it.cell;
            case 1 -> it == null ? NONE : it.value;
            case 2 -> it != null && it.pinned ? 1 : 0;
            case 3 -> now.movesSinceGiven.getOrDefault(program * 10 + page, 0);
            default -> BAD_VALUE;
        };
    }

    int program(int program, int what) {
        if (program < 0 || program > 4) {
            return UNKNOWN;
        }
        var its = now.pages.subMap(program * 10, program * 10 + 10);
        return switch (what) {
            case 0 -> its.size();
            case 1 -> (int) its.values().stream().filter(p -> p.pinned).count();
            case 2 -> now.lost[program];
            case 3 -> now.moves[program];
            default -> BAD_VALUE;
        };
    }

    int cell(int cell, int what) {
        if (!cellThere(cell)) {
            return UNKNOWN;
        }
        Integer user = now.user(cell);
        boolean retired = now.retired.contains(cell);
        return switch (what) {
            case 0 -> retired ? 2 : user != null ? 1 : 0;
            case 1 -> now.errorsOf(cell);
            case 2 -> user == null ? NONE : user / 10;
            case 3 -> user == null ? NONE : user % 10;
            case 4 -> !retired && now.bad(cell) ? 1 : 0;
            case 5 -> now.list.contains(cell) ? now.list.indexOf(cell) : NONE;
            default -> BAD_VALUE;
        };
    }

    int list(int rank) {
        return rank < 0 ? BAD_VALUE : rank < now.list.size() ? now.list.get(rank) : NONE;
    }

    /** There are more pages than cells, so that a page without a cell can always be written. */
    int next() {
        int key = IntStream.range(0, 50).filter(k -> !now.pages.containsKey(k)).findFirst().orElseThrow();
        int cell = doWrite(now.copy(), key, 0);
        return cell == FULL ? NONE : cell;
    }

    int reason(int cell) {
        if (!cellThere(cell)) {
            return UNKNOWN;
        }
        if (now.retired.contains(cell)) {
            return 0;
        }
        if (!now.bad(cell)) {
            return 1;
        }
        Integer user = now.user(cell);
        if (user != null && now.pages.get(user).pinned) {
            return 2;
        }
        if (now.cells(c -> c != cell && now.free(c) && !now.bad(c)).isEmpty()) {
            return 3;
        }
        throw new IllegalStateException("no reason why the cell " + cell + " is not retired");
    }

    int errorsLeft(int cell) {
        if (!cellThere(cell)) {
            return UNKNOWN;
        }
        State s = now.copy();
        if (s.retired.contains(cell)) {
            return NOT_POSSIBLE;
        }
        for (int errors = 1; errors <= 20; errors++) {
            doError(s, cell);
            if (s.retired.contains(cell)) {
                return errors;
            }
        }
        return NONE;
    }

    int worst() {
        return now.cells(c -> !now.retired.contains(c) && now.errorsOf(c) > 0).stream()
            .min(Comparator.<Integer>comparingInt(c -> -now.errorsOf(c)).thenComparing(Comparator.naturalOrder()))
            .orElse(NONE);
    }

    int ifStarted() {
        return doStart(now.copy());
    }

    int count(int what) {
        return switch (what) {
            case 0 -> now.day;
            case 1 -> now.cells(now::free).size();
            case 2 -> now.cells(c -> now.user(c) != null).size();
            case 3 -> now.retired.size();
            case 4 -> waiting(now);
            case 5 -> now.list.size();
            case 6 -> now.pages.size();
            case 7 -> (int) now.pages.values().stream().filter(p -> p.pinned).count();
            case 8 -> now.errorsSoFar;
            case 9 -> now.hardErrorsSoFar;
            case 10 -> now.movesSoFar;
            case 11 -> now.lostSoFar;
            case 12 -> now.starts;
            case 13, 14, 15 -> now.settings[what - 13];
            case 16 -> history.size();
            case 17 -> text.length();
            default -> BAD_VALUE;
        };
    }
}
