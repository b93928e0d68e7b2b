/** Retired cells of a memory that is mapped away by pages while programs run. */
public final class RetiredCells {
    public static final int UNKNOWN = -1;
    public static final int BAD_VALUE = -2;
    public static final int FULL = -3;
    public static final int NOT_POSSIBLE = -4;
    public static final int NONE = -5;

    private static final int CELLS = 40;
    private static final int PROGRAMS = 5;
    private static final int PAGES_EACH = 10;
    private static final int PAGES = PROGRAMS * PAGES_EACH;
    private static final int LIST_ROOM = 12;
    private static final int HISTORY_ROOM = 4;
    private static final int TEXT_ROOM = 60;
    /** The shortest thing is one character, and a ";" stands between two. */
    private static final int MOST_THINGS = TEXT_ROOM / 2;

    private static final int HIGHEST_VALUE = 9999;
    private static final int HIGHEST_DAY = 9999;
    private static final int MOST_DAYS = 99;
    private static final int NO_VALUE_LOST = 10000;
    private static final int FAULT_BASE = -100;

    private static final int BAD_FROM = 0;
    private static final int FORGET_EVERY = 1;
    private static final int GIVE_BY = 2;
    private static final int SETTINGS = 3;
    private static final int HIGHEST_BAD_FROM = 20;
    private static final int HIGHEST_FORGET_EVERY = 99;
    private static final int HIGHEST_GIVE_BY = 2;

    private static final int BY_FEWEST_ERRORS = 1;
    private static final int BEHIND_LAST_GIVEN = 2;

    private static final int FREE_CELL = 0;
    private static final int USED_CELL = 1;
    private static final int RETIRED_CELL = 2;

    private static final int REASON_IS_RETIRED = 0;
    private static final int REASON_NOT_BAD = 1;
    private static final int REASON_PINNED = 2;
    private static final int REASON_NO_OTHER_CELL = 3;

    private final Memory memory;
    /** What the memory was ahead of the act that runs. */
    private final Memory before;
    private final Memory snapshot;
    private boolean hasSnapshot;
    private final History history;
    private final Text text;
    private final Plan plan;
    private int stoppedThing;
    private int stoppedError;

    public RetiredCells() {
        memory = new Memory();
        before = new Memory();
        snapshot = new Memory();
        hasSnapshot = false;
        history = new History();
        text = new Text();
        plan = new Plan(text);
        stoppedThing = NONE;
        stoppedError = NONE;
    }

    // ---- programs

    public int write(int program, int page, int value) {
        if (!isPage(program, page)) {
            return UNKNOWN;
        }
        if (!isWithin(value, 0, HIGHEST_VALUE)) {
            return BAD_VALUE;
        }
        before.copyFrom(memory);
        return recorded(memory.put(pageIndex(program, page), value));
    }

    public int giveBack(int program, int page) {
        if (!isPage(program, page)) {
            return UNKNOWN;
        }
        before.copyFrom(memory);
        return recorded(memory.takeBack(pageIndex(program, page)));
    }

    public int pin(int program, int page, boolean pinned) {
        if (!isPage(program, page)) {
            return UNKNOWN;
        }
        before.copyFrom(memory);
        return recorded(memory.changePin(pageIndex(program, page), pinned));
    }

    // ---- errors, days

    public int error(int cell) {
        if (!isCell(cell)) {
            return UNKNOWN;
        }
        before.copyFrom(memory);
        return recorded(memory.meetError(cell));
    }

    public int hardError(int cell) {
        if (!isCell(cell)) {
            return UNKNOWN;
        }
        before.copyFrom(memory);
        return recorded(memory.meetHardError(cell));
    }

    public int start() {
        before.copyFrom(memory);
        return recorded(memory.startAnew());
    }

    public int pass(int days) {
        if (!isWithin(days, 1, MOST_DAYS)) {
            return BAD_VALUE;
        }
        before.copyFrom(memory);
        return recorded(memory.letPass(days));
    }

    public int set(int which, int value) {
        if (!isWithin(which, 0, SETTINGS - 1)) {
            return UNKNOWN;
        }
        if (!isWithin(value, lowestSetting(which), highestSetting(which))) {
            return BAD_VALUE;
        }
        before.copyFrom(memory);
        return recorded(memory.changeSetting(which, value));
    }

    // ---- texts

    public int type(char character) {
        return text.append(character);
    }

    public int clearText() {
        return text.empty();
    }

    public int perform() {
        int fault = plan.readAll();
        if (fault >= 0) {
            return FAULT_BASE - fault;
        }
        before.copyFrom(memory);
        int things = plan.size();
        for (int thing = 0; thing < things; thing++) {
            int answer = doThing(thing);
            if (answer < 0 && answer != NONE) {
                memory.copyFrom(before);
                stoppedThing = thing;
                stoppedError = answer;
                return NOT_POSSIBLE;
            }
        }
        return recorded(things);
    }

    public int stopped(int what) {
        switch (what) {
            case 0:
                return stoppedThing;
            case 1:
                return stoppedError;
            default:
                return BAD_VALUE;
        }
    }

    // ---- history

    public int undo() {
        return history.takeLatest(memory);
    }

    public int keep() {
        snapshot.copyFrom(memory);
        hasSnapshot = true;
        return memory.retiredCells();
    }

    public int restore() {
        if (!hasSnapshot) {
            return NONE;
        }
        before.copyFrom(memory);
        memory.copyFrom(snapshot);
        memory.retireWhatCan();
        return recorded(memory.retiredCells());
    }

    // ---- what is told

    public int page(int program, int page, int what) {
        if (!isPage(program, page)) {
            return UNKNOWN;
        }
        return memory.tellPage(pageIndex(program, page), what);
    }

    public int program(int program, int what) {
        if (!isWithin(program, 0, PROGRAMS - 1)) {
            return UNKNOWN;
        }
        return memory.tellProgram(program, what);
    }

    public int cell(int cell, int what) {
        if (!isCell(cell)) {
            return UNKNOWN;
        }
        return memory.tellCell(cell, what);
    }

    public int list(int rank) {
        return rank < 0 ? BAD_VALUE : memory.listedAt(rank);
    }

    public int next() {
        return memory.cellToGive();
    }

    public int reason(int cell) {
        return isCell(cell) ? memory.whyNotRetired(cell) : UNKNOWN;
    }

    public int errorsLeft(int cell) {
        return isCell(cell) ? memory.errorsUntilRetired(cell) : UNKNOWN;
    }

    public int worst() {
        return memory.cellWithMostErrors();
    }

    public int ifStarted() {
        return memory.freeBehindStart();
    }

    public int count(int what) {
        switch (what) {
            case 16:
                return history.size();
            case 17:
                return text.length();
            default:
                return memory.tellCount(what);
        }
    }

    // ---- what the calls share

    /** Records the state ahead of an act, unless its answer is an error or NONE; all those are negative. */
    private int recorded(int answer) {
        if (answer >= 0) {
            history.add(before);
        }
        return answer;
    }

    private int doThing(int thing) {
        int page = plan.pageOf(thing);
        int number = plan.numberOf(thing);
        switch (plan.kindOf(thing)) {
            case 'w':
                return memory.put(page, number);
            case 'f':
                return memory.takeBack(page);
            case 'p':
                return memory.changePin(page, !memory.isPinned(page));
            case 'e':
                return memory.meetError(number);
            case 'h':
                return memory.meetHardError(number);
            case 's':
                return memory.startAnew();
            default:
                return memory.letPass(number);
        }
    }

    private static boolean isWithin(int number, int lowest, int highest) {
        return number >= lowest && number <= highest;
    }

    private static boolean isCell(int cell) {
        return isWithin(cell, 0, CELLS - 1);
    }

    private static boolean isPage(int program, int page) {
        return isWithin(program, 0, PROGRAMS - 1) && isWithin(page, 0, PAGES_EACH - 1);
    }

    private static int pageIndex(int program, int page) {
        return program * PAGES_EACH + page;
    }

    private static int lowestSetting(int which) {
        return which == GIVE_BY ? 0 : 1;
    }

    private static int highestSetting(int which) {
        switch (which) {
            case BAD_FROM:
                return HIGHEST_BAD_FROM;
            case FORGET_EVERY:
                return HIGHEST_FORGET_EVERY;
            default:
                return HIGHEST_GIVE_BY;
        }
    }

    /**
     * A state: all that undo() and restore() bring back. Its methods take cells 0 to 39,
     * pages by their index (program * 10 + page), and settings that are in their range:
     * the face and the plan look at them. An act that answers an error or NONE changes
     * nothing; another one ends with retireWhatCan().
     */
    private static final class Memory {
        private final boolean[] retired;
        private final int[] errors;
        /** The page by which a cell is used, or NONE. */
        private final int[] owner;
        /** The cell of a page, or NONE. */
        private final int[] cellOf;
        private final int[] valueOf;
        private final boolean[] pinned;
        private final int[] movesOf;
        private final int[] lostBy;
        private final int[] movesBy;
        private final int[] listed;
        private int listLength;
        private final int[] settings;
        private int day;
        private int lastGiven;
        private int errorsSoFar;
        private int hardErrorsSoFar;
        private int startsSoFar;

        Memory() {
            retired = new boolean[CELLS];
            errors = new int[CELLS];
            owner = new int[CELLS];
            cellOf = new int[PAGES];
            valueOf = new int[PAGES];
            pinned = new boolean[PAGES];
            movesOf = new int[PAGES];
            lostBy = new int[PROGRAMS];
            movesBy = new int[PROGRAMS];
            listed = new int[LIST_ROOM];
            settings = new int[SETTINGS];
            settings[BAD_FROM] = 3;
            settings[FORGET_EVERY] = 10;
            // The cell 0 is the first one behind the last one at first.
            lastGiven = CELLS - 1;
            for (int cell = 0; cell < CELLS; cell++) {
                owner[cell] = NONE;
            }
            for (int page = 0; page < PAGES; page++) {
                cellOf[page] = NONE;
            }
        }

        void copyFrom(Memory other) {
            System.arraycopy(other.retired, 0, retired, 0, CELLS);
            System.arraycopy(other.errors, 0, errors, 0, CELLS);
            System.arraycopy(other.owner, 0, owner, 0, CELLS);
            System.arraycopy(other.cellOf, 0, cellOf, 0, PAGES);
            System.arraycopy(other.valueOf, 0, valueOf, 0, PAGES);
            System.arraycopy(other.pinned, 0, pinned, 0, PAGES);
            System.arraycopy(other.movesOf, 0, movesOf, 0, PAGES);
            System.arraycopy(other.lostBy, 0, lostBy, 0, PROGRAMS);
            System.arraycopy(other.movesBy, 0, movesBy, 0, PROGRAMS);
            System.arraycopy(other.listed, 0, listed, 0, LIST_ROOM);
            System.arraycopy(other.settings, 0, settings, 0, SETTINGS);
            listLength = other.listLength;
            day = other.day;
            lastGiven = other.lastGiven;
            errorsSoFar = other.errorsSoFar;
            hardErrorsSoFar = other.hardErrorsSoFar;
            startsSoFar = other.startsSoFar;
        }

        // ---- acts

        int put(int page, int value) {
            if (!hasCell(page)) {
                int cell = cellToGive();
                if (cell < 0) {
                    return FULL;
                }
                movesOf[page] = 0;
                give(cell, page);
            }
            valueOf[page] = value;
            retireWhatCan();
            return cellOf[page];
        }

        int takeBack(int page) {
            if (!hasCell(page)) {
                return NONE;
            }
            int value = valueOf[page];
            release(page);
            retireWhatCan();
            return value;
        }

        int changePin(int page, boolean pin) {
            if (!hasCell(page)) {
                return NOT_POSSIBLE;
            }
            if (pinned[page] == pin) {
                return NONE;
            }
            pinned[page] = pin;
            retireWhatCan();
            return pinnedPages();
        }

        int meetError(int cell) {
            if (retired[cell]) {
                return NOT_POSSIBLE;
            }
            errors[cell]++;
            errorsSoFar++;
            return retireWhatCan();
        }

        int meetHardError(int cell) {
            if (retired[cell]) {
                return NOT_POSSIBLE;
            }
            hardErrorsSoFar++;
            int lostValue = loseWhatLiesIn(cell);
            retire(cell);
            retireWhatCan();
            return lostValue;
        }

        int startAnew() {
            startsSoFar++;
            for (int page = 0; page < PAGES; page++) {
                release(page);
            }
            for (int cell = 0; cell < CELLS; cell++) {
                errors[cell] = 0;
                retired[cell] = placeOnList(cell) >= 0;
            }
            retireWhatCan();
            return freeCells();
        }

        int letPass(int days) {
            if (day + days > HIGHEST_DAY) {
                return FULL;
            }
            for (int passed = 0; passed < days; passed++) {
                day++;
                if (isForgettingDay()) {
                    forgetErrors();
                }
            }
            retireWhatCan();
            return waitingCells();
        }

        int changeSetting(int which, int value) {
            int previous = settings[which];
            if (previous == value) {
                return NONE;
            }
            settings[which] = value;
            retireWhatCan();
            return previous;
        }

        // ---- cells that are given and retired

        /**
         * The cell that is given next, or NONE. Bad ones are passed over: behind an act no free
         * cell is bad, but while retireWhatCan() looks, one may be, and a moved page must not get it.
         */
        int cellToGive() {
            boolean byErrors = settings[GIVE_BY] == BY_FEWEST_ERRORS;
            int first = settings[GIVE_BY] == BEHIND_LAST_GIVEN ? lastGiven + 1 : 0;
            int best = NONE;
            for (int step = 0; step < CELLS; step++) {
                int cell = (first + step) % CELLS;
                if (isGivable(cell) && (best < 0 || byErrors && errors[cell] < errors[best])) {
                    best = cell;
                }
            }
            return best;
        }

        private void give(int cell, int page) {
            owner[cell] = page;
            cellOf[page] = cell;
            lastGiven = cell;
        }

        private void release(int page) {
            int cell = cellOf[page];
            if (cell < 0) {
                return;
            }
            owner[cell] = NONE;
            cellOf[page] = NONE;
            pinned[page] = false;
        }

        private int loseWhatLiesIn(int cell) {
            int page = owner[cell];
            if (page < 0) {
                return NO_VALUE_LOST;
            }
            lostBy[page / PAGES_EACH]++;
            release(page);
            return valueOf[page];
        }

        /** Looks once at all cells, by their numbers; tells how many are retired by that. */
        int retireWhatCan() {
            int retiredNow = 0;
            for (int cell = 0; cell < CELLS; cell++) {
                if (waits(cell) && canRetire(cell)) {
                    moveAwayFrom(cell);
                    retire(cell);
                    retiredNow++;
                }
            }
            return retiredNow;
        }

        /** Whether a cell, once it is bad, can be retired at once. */
        private boolean canRetire(int cell) {
            int page = owner[cell];
            return page < 0 || !pinned[page] && cellToGive() >= 0;
        }

        private void moveAwayFrom(int cell) {
            int page = owner[cell];
            int target = cellToGive();
            if (page < 0 || target < 0) {
                return;
            }
            owner[cell] = NONE;
            give(target, page);
            movesOf[page]++;
            movesBy[page / PAGES_EACH]++;
        }

        private void retire(int cell) {
            retired[cell] = true;
            if (listLength < LIST_ROOM) {
                listed[listLength] = cell;
                listLength++;
            }
        }

        // ---- days

        private boolean isForgettingDay() {
            int every = settings[FORGET_EVERY];
            return every > 0 && day % every == 0;
        }

        private void forgetErrors() {
            for (int cell = 0; cell < CELLS; cell++) {
                if (!retired[cell] && errors[cell] > 0) {
                    errors[cell]--;
                }
            }
        }

        // ---- what is told

        int tellPage(int page, int what) {
            switch (what) {
                case 0:
                    return cellOf[page];
                case 1:
                    return hasCell(page) ? valueOf[page] : NONE;
                case 2:
                    return pinned[page] ? 1 : 0;
                case 3:
                    return movesOf[page];
                default:
                    return BAD_VALUE;
            }
        }

        int tellProgram(int program, int what) {
            switch (what) {
                case 0:
                    return pagesWithCells(program);
                case 1:
                    return pinnedPagesOf(program);
                case 2:
                    return lostBy[program];
                case 3:
                    return movesBy[program];
                default:
                    return BAD_VALUE;
            }
        }

        int tellCell(int cell, int what) {
            int page = owner[cell];
            switch (what) {
                case 0:
                    return howCellIs(cell);
                case 1:
                    return errors[cell];
                case 2:
                    return page < 0 ? NONE : page / PAGES_EACH;
                case 3:
                    return page < 0 ? NONE : page % PAGES_EACH;
                case 4:
                    return waits(cell) ? 1 : 0;
                case 5:
                    return placeOnList(cell);
                default:
                    return BAD_VALUE;
            }
        }

        int tellCount(int what) {
            switch (what) {
                case 0:
                    return day;
                case 1:
                    return freeCells();
                case 2:
                case 6:
                    // Each used cell is the cell of one page.
                    return usedCells();
                case 3:
                    return retiredCells();
                case 4:
                    return waitingCells();
                case 5:
                    return listLength;
                case 7:
                    return pinnedPages();
                case 8:
                    return errorsSoFar;
                case 9:
                    return hardErrorsSoFar;
                case 10:
                    return sum(movesBy);
                case 11:
                    return sum(lostBy);
                case 12:
                    return startsSoFar;
                case 13:
                    return settings[BAD_FROM];
                case 14:
                    return settings[FORGET_EVERY];
                case 15:
                    return settings[GIVE_BY];
                default:
                    return BAD_VALUE;
            }
        }

        int listedAt(int rank) {
            return rank >= 0 && rank < listLength ? listed[rank] : NONE;
        }

        /** Behind an act a bad cell that is not retired is used, as a free one is retired at once. */
        int whyNotRetired(int cell) {
            if (retired[cell]) {
                return REASON_IS_RETIRED;
            }
            if (!isBad(cell)) {
                return REASON_NOT_BAD;
            }
            int page = owner[cell];
            return page >= 0 && pinned[page] ? REASON_PINNED : REASON_NO_OTHER_CELL;
        }

        /** A cell that is bad and waits would go on waiting: more errors bring no room and take no pin away. */
        int errorsUntilRetired(int cell) {
            if (retired[cell]) {
                return NOT_POSSIBLE;
            }
            if (isBad(cell) || !canRetire(cell)) {
                return NONE;
            }
            return settings[BAD_FROM] - errors[cell];
        }

        int cellWithMostErrors() {
            int worst = NONE;
            int most = 0;
            for (int cell = 0; cell < CELLS; cell++) {
                if (!retired[cell] && errors[cell] > most) {
                    worst = cell;
                    most = errors[cell];
                }
            }
            return worst;
        }

        int freeBehindStart() {
            return CELLS - listLength;
        }

        boolean isPinned(int page) {
            return pinned[page];
        }

        // ---- how cells and pages are

        private boolean hasCell(int page) {
            return cellOf[page] >= 0;
        }

        private boolean isBad(int cell) {
            return errors[cell] >= settings[BAD_FROM];
        }

        private boolean isGivable(int cell) {
            return !retired[cell] && owner[cell] < 0 && errors[cell] < settings[BAD_FROM];
        }

        private boolean waits(int cell) {
            return !retired[cell] && isBad(cell);
        }

        private int howCellIs(int cell) {
            if (retired[cell]) {
                return RETIRED_CELL;
            }
            return owner[cell] < 0 ? FREE_CELL : USED_CELL;
        }

        private int placeOnList(int cell) {
            for (int rank = 0; rank < listLength; rank++) {
                if (listed[rank] == cell) {
                    return rank;
                }
            }
            return NONE;
        }

        // ---- sums

        int retiredCells() {
            return cellsThatAre(RETIRED_CELL);
        }

        private int freeCells() {
            return cellsThatAre(FREE_CELL);
        }

        private int usedCells() {
            return cellsThatAre(USED_CELL);
        }

        private int cellsThatAre(int how) {
            int cells = 0;
            for (int cell = 0; cell < CELLS; cell++) {
                if (howCellIs(cell) == how) {
                    cells++;
                }
            }
            return cells;
        }

        private int waitingCells() {
            int cells = 0;
            for (int cell = 0; cell < CELLS; cell++) {
                if (waits(cell)) {
                    cells++;
                }
            }
            return cells;
        }

        private int pinnedPages() {
            int pages = 0;
            for (int program = 0; program < PROGRAMS; program++) {
                pages += pinnedPagesOf(program);
            }
            return pages;
        }

        private int pinnedPagesOf(int program) {
            int pages = 0;
            for (int page = 0; page < PAGES_EACH; page++) {
                if (pinned[pageIndex(program, page)]) {
                    pages++;
                }
            }
            return pages;
        }

        private int pagesWithCells(int program) {
            int pages = 0;
            for (int page = 0; page < PAGES_EACH; page++) {
                if (hasCell(pageIndex(program, page))) {
                    pages++;
                }
            }
            return pages;
        }

        private static int sum(int[] numbers) {
            int all = 0;
            for (int i = 0; i < numbers.length; i++) {
                all += numbers[i];
            }
            return all;
        }
    }

    /** The latest states, in rows that are used again. */
    private static final class History {
        private final Memory[] states;
        private int oldest;
        private int size;

        History() {
            states = new Memory[HISTORY_ROOM];
            for (int i = 0; i < HISTORY_ROOM; i++) {
                states[i] = new Memory();
            }
            oldest = 0;
            size = 0;
        }

        int size() {
            return size;
        }

        void add(Memory state) {
            // When the room is full, the place behind the latest one is that of the oldest.
            states[(oldest + size) % HISTORY_ROOM].copyFrom(state);
            if (size < HISTORY_ROOM) {
                size++;
            } else {
                oldest = (oldest + 1) % HISTORY_ROOM;
            }
        }

        /** Removes the latest state and brings it into the memory; tells how many are left. */
        int takeLatest(Memory memory) {
            if (size == 0) {
                return NONE;
            }
            size--;
            memory.copyFrom(states[(oldest + size) % HISTORY_ROOM]);
            return size;
        }
    }

    private static final class Text {
        private final char[] characters;
        private int length;

        Text() {
            characters = new char[TEXT_ROOM];
            length = 0;
        }

        int length() {
            return length;
        }

        int append(char character) {
            if (length >= TEXT_ROOM) {
                return FULL;
            }
            characters[length] = character;
            length++;
            return length;
        }

        int empty() {
            int previous = length;
            length = 0;
            return previous;
        }

        /** The character at an index, or NONE where the text has none. */
        int at(int index) {
            return index >= 0 && index < length ? characters[index] : NONE;
        }
    }

    /** The things that a text tells, one after the other. */
    private static final class Plan {
        private final Text text;
        private final char[] kinds;
        private final int[] pages;
        private final int[] numbers;
        private int size;
        /** Never goes past a character that is not allowed, so a failed reading leaves it at the fault. */
        private int position;

        Plan(Text source) {
            text = source;
            kinds = new char[MOST_THINGS];
            pages = new int[MOST_THINGS];
            numbers = new int[MOST_THINGS];
            size = 0;
            position = 0;
        }

        int size() {
            return size;
        }

        char kindOf(int thing) {
            return kinds[thing];
        }

        int pageOf(int thing) {
            return pages[thing];
        }

        int numberOf(int thing) {
            return numbers[thing];
        }

        /** Reads all things of the text; tells its fault, or NONE. */
        int readAll() {
            position = 0;
            size = 0;
            for (int thing = 0; thing < MOST_THINGS; thing++) {
                if (!readThing(thing)) {
                    return position;
                }
                size++;
                if (position >= text.length()) {
                    return NONE;
                }
                if (!readSign(';')) {
                    return position;
                }
            }
            // So many things fill the text, and the last ";" has no thing behind it.
            return position;
        }

        private boolean readThing(int thing) {
            int kind = text.at(position);
            pages[thing] = 0;
            numbers[thing] = 0;
            switch (kind) {
                case 'w':
                    return readKind(thing, 'w') && readPage(thing) && readSign('=')
                        && readNumber(thing, 0, HIGHEST_VALUE);
                case 'f':
                    return readKind(thing, 'f') && readPage(thing);
                case 'p':
                    return readKind(thing, 'p') && readPage(thing);
                case 'e':
                    return readKind(thing, 'e') && readNumber(thing, 0, CELLS - 1);
                case 'h':
                    return readKind(thing, 'h') && readNumber(thing, 0, CELLS - 1);
                case 's':
                    return readKind(thing, 's');
                case '.':
                    return readKind(thing, '.') && readNumber(thing, 1, MOST_DAYS);
                default:
                    return false;
            }
        }

        private boolean readKind(int thing, char kind) {
            kinds[thing] = kind;
            return readSign(kind);
        }

        private boolean readSign(char sign) {
            if (text.at(position) != sign) {
                return false;
            }
            position++;
            return true;
        }

        private boolean readPage(int thing) {
            int program = digitAt(position);
            if (!isWithin(program, 0, PROGRAMS - 1)) {
                return false;
            }
            position++;
            int page = digitAt(position);
            if (page < 0) {
                return false;
            }
            position++;
            pages[thing] = pageIndex(program, page);
            return true;
        }

        private boolean readNumber(int thing, int lowest, int highest) {
            int number = digitAt(position);
            if (number < lowest) {
                return false;
            }
            position++;
            // A digit that is left here is refused by what comes next, at its own place.
            for (int place = position; place < TEXT_ROOM; place++) {
                int digit = digitAt(place);
                if (digit < 0 || number == 0 || number * 10 + digit > highest) {
                    break;
                }
                number = number * 10 + digit;
                position++;
            }
            numbers[thing] = number;
            return true;
        }

        /** The digit at an index, or NONE where there is none. */
        private int digitAt(int index) {
            int character = text.at(index);
            return isWithin(character, '0', '9') ? character - '0' : NONE;
        }
    }
}
