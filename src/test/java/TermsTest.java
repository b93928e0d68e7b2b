/** The chapter "Terms", sentence by sentence: each sentence with a boundary has a test of its own. */
public final class TermsTest {
    private static final int UNKNOWN = -1;
    private static final int BAD_VALUE = -2;
    private static final int FULL = -3;
    private static final int NOT_POSSIBLE = -4;
    private static final int NONE = -5;

    private static final Due due = new Due();

    private interface Act {
        int on(RetiredCells x);
    }

    public static void main(String[] args) {
        pagesAndPrograms();
        givenCells();
        errorsAndBadCells();
        lookingForBadCells();
        hardErrors();
        listAndStarts();
        days();
        history();
        due.end();
    }

    // ---- pages, programs

    private static void pagesAndPrograms() {
        fortyCells();
        freeUsedOrRetired();
        noErrorsAtFirst();
        fiveProgramsOfTenPages();
        noCellAtFirst();
        valueLiesInTheCell();
        pinNeedsACell();
    }

    /** "The memory has 40 cells, 0 to 39" */
    private static void fortyCells() {
        RetiredCells x = new RetiredCells();
        due.is("below the first cell", x.cell(-1, 0), UNKNOWN);
        due.is("the first cell", x.cell(0, 0), 0);
        due.is("the last cell", x.cell(39, 0), 0);
        due.is("behind the last cell", x.cell(40, 0), UNKNOWN);
        due.is("free cells", x.count(1), 40);
        for (int page = 0; page < 40; page++) {
            due.is("cell for page " + page, x.write(page / 10, page % 10, 0), page);
        }
        due.is("the 41st page", x.write(4, 0, 0), FULL);
    }

    /** "a cell is free, used, or retired" */
    private static void freeUsedOrRetired() {
        RetiredCells x = new RetiredCells();
        x.write(0, 0, 1);
        x.hardError(1);
        due.is("used", x.cell(0, 0), 1);
        due.is("retired", x.cell(1, 0), 2);
        due.is("free", x.cell(2, 0), 0);
        due.is("one free less for each", x.count(1), 38);
        due.is("one used", x.count(2), 1);
        due.is("one retired", x.count(3), 1);
        Runs.errors(x, 0, 3);
        due.is("a moved page: used still", x.count(2), 1);
        due.is("a moved page: one more retired", x.count(3), 2);
        due.is("a moved page: one less free", x.count(1), 37);
    }

    /** "A cell has a count of errors (0 at first)." */
    private static void noErrorsAtFirst() {
        RetiredCells x = new RetiredCells();
        for (int cell = 0; cell < 40; cell++) {
            due.is("errors of " + cell, x.cell(cell, 1), 0);
            x.error(cell);
            due.is("errors of " + cell + " then", x.cell(cell, 1), 1);
        }
    }

    /** "There are 5 programs, 0 to 4, each with 10 pages, 0 to 9." */
    private static void fiveProgramsOfTenPages() {
        RetiredCells x = new RetiredCells();
        due.is("first program, first page", x.write(0, 0, 1), 0);
        due.is("first program, last page", x.write(0, 9, 2), 1);
        due.is("last program, first page", x.write(4, 0, 3), 2);
        due.is("last program, last page", x.write(4, 9, 4), 3);
        due.is("below the first program", x.write(-1, 0, 0), UNKNOWN);
        due.is("behind the last program", x.write(5, 0, 0), UNKNOWN);
        due.is("below the first page", x.write(0, -1, 0), UNKNOWN);
        due.is("behind the last page", x.write(0, 10, 0), UNKNOWN);
        due.is("behind the last page of the last program", x.write(4, 10, 0), UNKNOWN);
        due.is("not the page of a neighbour", x.page(1, 0, 0), NONE);
        due.is("the first one's last page", x.page(0, 9, 1), 2);
        due.is("pages with cells", x.count(6), 4);
    }

    /** "A page has a cell, or none (at first)" */
    private static void noCellAtFirst() {
        RetiredCells x = new RetiredCells();
        for (int page = 0; page < 50; page++) {
            due.is("cell of page " + page, x.page(page / 10, page % 10, 0), NONE);
            due.is("value of page " + page, x.page(page / 10, page % 10, 1), NONE);
            due.is("given back " + page, x.giveBack(page / 10, page % 10), NONE);
        }
    }

    /** "it has a value (0 to 9999) then, which lies in the cell" */
    private static void valueLiesInTheCell() {
        RetiredCells x = new RetiredCells();
        due.is("the least value", x.write(0, 0, 0), 0);
        due.is("the greatest value", x.write(0, 1, 9999), 1);
        due.is("below the least", x.write(0, 0, -1), BAD_VALUE);
        due.is("above the greatest", x.write(0, 0, 10000), BAD_VALUE);
        due.is("the least is told", x.page(0, 0, 1), 0);
        due.is("the greatest is told", x.page(0, 1, 1), 9999);
        due.is("the greatest is lost with the cell", x.hardError(1), 9999);
    }

    /** "and can be pinned" */
    private static void pinNeedsACell() {
        RetiredCells x = new RetiredCells();
        due.is("without a cell", x.pin(0, 0, true), NOT_POSSIBLE);
        x.write(0, 0, 0);
        due.is("not pinned at first", x.page(0, 0, 2), 0);
        due.is("with a cell", x.pin(0, 0, true), 1);
        due.is("pinned", x.page(0, 0, 2), 1);
    }

    private static void givenCells() {
        lowestOneIsGiven();
        oneWithFewestErrorsIsGiven();
        ofSeveralTheLowest();
        firstOneBehindTheLast();
        behind39Comes0();
        cell0IsFirstAtFirst();
        startChangesNothingOfThat();
        movesGiveToo();
        writingAgainGivesNone();
    }

    /** "by the setting 2 as 0 the lowest one" */
    private static void lowestOneIsGiven() {
        RetiredCells x = Runs.fullMemory();
        x.giveBack(3, 9);
        x.giveBack(2, 0);
        x.giveBack(2, 1);
        Runs.errors(x, 20, 2);
        due.is("the lowest free one, though it has errors", x.write(4, 0, 0), 20);
        due.is("the next one", x.write(4, 1, 0), 21);
        due.is("the last cell", x.write(4, 2, 0), 39);
        due.is("none is left", x.next(), NONE);
    }

    /** "as 1 the one with the fewest errors" */
    private static void oneWithFewestErrorsIsGiven() {
        RetiredCells x = Runs.fullMemory();
        x.set(2, 1);
        x.set(0, 20);
        Runs.errors(x, 5, 2);
        Runs.errors(x, 8, 1);
        Runs.errors(x, 11, 19);
        x.giveBack(0, 5);
        due.is("the only one", x.next(), 5);
        x.giveBack(1, 1);
        due.is("not the one with most errors", x.next(), 5);
        x.giveBack(0, 8);
        due.is("the one with one error", x.next(), 8);
        x.giveBack(3, 9);
        due.is("the one without errors", x.next(), 39);
        due.is("it is given", x.write(4, 0, 0), 39);
        due.is("then one error", x.write(4, 1, 0), 8);
        due.is("then two", x.write(4, 2, 0), 5);
        due.is("then nineteen", x.write(4, 3, 0), 11);
    }

    /** "of several the lowest" */
    private static void ofSeveralTheLowest() {
        RetiredCells x = Runs.fullMemory();
        x.set(2, 1);
        for (int cell : new int[] {39, 7, 30}) {
            x.error(cell);
            x.giveBack(cell / 10, cell % 10);
        }
        due.is("one error each", x.write(4, 0, 0), 7);
        due.is("of the two that are left", x.write(4, 1, 0), 30);
        due.is("the last one", x.write(4, 2, 0), 39);
        RetiredCells y = new RetiredCells();
        y.set(2, 1);
        due.is("no errors at all", y.write(0, 0, 0), 0);
        due.is("no errors at all, again", y.write(0, 1, 0), 1);
    }

    /** "as 2 the first one behind the cell that was given last" */
    private static void firstOneBehindTheLast() {
        RetiredCells x = new RetiredCells();
        x.write(0, 0, 0);
        x.write(0, 1, 0);
        x.write(0, 2, 0);
        x.giveBack(0, 0);
        x.giveBack(0, 1);
        x.set(2, 2);
        due.is("not the lowest", x.next(), 3);
        x.hardError(3);
        due.is("not a retired one", x.next(), 4);
        x.giveBack(0, 2);
        due.is("not the one that was given last", x.write(0, 3, 0), 4);
        due.is("behind it", x.write(0, 4, 0), 5);
    }

    /** "(behind 39 comes 0" */
    private static void behind39Comes0() {
        RetiredCells x = Runs.fullMemory();
        x.set(2, 2);
        x.giveBack(0, 0);
        x.giveBack(3, 9);
        due.is("0 comes behind 39", x.write(4, 0, 0), 0);
        due.is("39 is the last one behind 0", x.write(4, 1, 0), 39);
        x.giveBack(4, 1);
        due.is("the one that was given last, if there is no other", x.write(4, 2, 0), 39);
        x.giveBack(3, 8);
        due.is("around behind 39", x.write(4, 3, 0), 38);
    }

    /** "the cell 0 is the first one at first" */
    private static void cell0IsFirstAtFirst() {
        RetiredCells x = new RetiredCells();
        x.set(2, 2);
        due.is("next", x.next(), 0);
        x.hardError(0);
        due.is("the next one, if 0 is retired", x.next(), 1);
        due.is("given", x.write(0, 0, 0), 1);
    }

    /** "a start changes nothing of that" */
    private static void startChangesNothingOfThat() {
        RetiredCells x = new RetiredCells();
        x.set(2, 2);
        x.write(0, 0, 0);
        x.write(0, 1, 0);
        x.start();
        due.is("behind the one given last", x.next(), 2);
        x.write(0, 0, 0);
        Due.perform(x, "s;s");
        due.is("behind starts of a text", x.write(0, 0, 0), 3);
        RetiredCells fresh = new RetiredCells();
        fresh.set(2, 2);
        fresh.start();
        due.is("nothing given yet", fresh.next(), 0);
    }

    /** "this cell is given": a cell to which a page is moved is one that was given. */
    private static void movesGiveToo() {
        RetiredCells x = new RetiredCells();
        x.write(0, 0, 0);
        x.write(0, 1, 0);
        x.set(2, 2);
        Runs.errors(x, 0, 3);
        due.is("moved behind the cell given last", x.page(0, 0, 0), 2);
        due.is("behind the cell of the move", x.next(), 3);
    }

    /** "A cell is given" to a page without one alone. */
    private static void writingAgainGivesNone() {
        RetiredCells x = new RetiredCells();
        x.write(0, 0, 0);
        x.write(0, 1, 0);
        x.set(2, 2);
        due.is("its own cell", x.write(0, 0, 7), 0);
        due.is("the one given last is still 1", x.next(), 2);
    }

    // ---- errors

    private static void errorsAndBadCells() {
        oneErrorMore();
        asGreatAsTheSetting();
        orGreater();
        settingOfBadCells();
        freeOneAtOnce();
        usedOneIsMoved();
        movedBySetting();
        pinnedOneWaits();
        noOtherCell();
        otherCellIsBad();
        otherCellIsNotBad();
        waitsNoLonger();
    }

    /** "An error in a cell that is not retired makes its count 1 more." */
    private static void oneErrorMore() {
        RetiredCells x = new RetiredCells();
        x.write(0, 0, 0);
        x.pin(0, 0, true);
        for (int count = 1; count <= 25; count++) {
            x.error(0);
            due.is("errors of a used one", x.cell(0, 1), count);
        }
        due.is("of no other", x.cell(1, 1), 0);
        Runs.errors(x, 5, 3);
        due.is("it is retired", x.error(5), NOT_POSSIBLE);
        due.is("a retired one's count stays", x.cell(5, 1), 3);
        due.is("errors so far", x.count(8), 28);
    }

    /** "A cell whose count is as great as the setting 0 tells .. is bad." */
    private static void asGreatAsTheSetting() {
        for (int setting = 1; setting <= 20; setting++) {
            RetiredCells x = Runs.fullMemory();
            x.set(0, setting);
            Runs.errors(x, 39, setting - 1);
            due.is("one less than " + setting + ": not bad", x.cell(39, 4), 0);
            due.is("one less than " + setting + ": the reason", x.reason(39), 1);
            x.error(39);
            due.is("as great as " + setting + ": bad", x.cell(39, 4), 1);
            due.is("as great as " + setting + ": the reason", x.reason(39), 3);
        }
    }

    /** "or greater, is bad" */
    private static void orGreater() {
        RetiredCells x = Runs.fullMemory();
        Runs.errors(x, 0, 4);
        due.is("one more", x.cell(0, 4), 1);
        x.set(0, 5);
        due.is("not bad by a greater setting", x.cell(0, 4), 0);
        x.set(0, 1);
        due.is("much greater than the setting", x.cell(0, 4), 1);
        Runs.errors(x, 0, 30);
        due.is("thirty more", x.count(4), 1);
    }

    /** "the setting 0 tells (1 to 20; 3 at first)" */
    private static void settingOfBadCells() {
        RetiredCells x = new RetiredCells();
        due.is("at first", x.count(13), 3);
        due.is("0", x.set(0, 0), BAD_VALUE);
        due.is("21", x.set(0, 21), BAD_VALUE);
        due.is("1", x.set(0, 1), 3);
        due.is("20", x.set(0, 20), 1);
        due.is("told", x.count(13), 20);
        RetiredCells y = new RetiredCells();
        due.is("two errors at first", y.error(0) + y.error(0), 0);
        due.is("three errors at first", y.error(0), 1);
    }

    /** "A bad cell is retired as soon as that is possible: a free one at once" */
    private static void freeOneAtOnce() {
        RetiredCells x = Runs.fullMemory();
        x.giveBack(0, 0);
        Runs.errors(x, 0, 2);
        due.is("the only free one, two errors", x.cell(0, 0), 0);
        due.is("three errors", x.error(0), 1);
        due.is("it is retired", x.cell(0, 0), 2);
        due.is("none is free", x.count(1), 0);
    }

    /** "a used one whose page is not pinned .. this cell is given .. to the page, with its value, and the bad cell is retired" */
    private static void usedOneIsMoved() {
        RetiredCells x = new RetiredCells();
        x.write(4, 9, 9999);
        due.is("retired by it", x.error(0) + x.error(0) + x.error(0), 1);
        due.is("its cell", x.page(4, 9, 0), 1);
        due.is("its value", x.page(4, 9, 1), 9999);
        due.is("its pin", x.page(4, 9, 2), 0);
        due.is("its moves", x.page(4, 9, 3), 1);
        due.is("the new cell is used", x.cell(1, 0), 1);
        due.is("by the program", x.cell(1, 2), 4);
        due.is("by the page", x.cell(1, 3), 9);
        due.is("the bad one is retired", x.cell(0, 0), 2);
        due.is("and used by no program", x.cell(0, 2), NONE);
        due.is("and by no page", x.cell(0, 3), NONE);
        due.is("none is lost", x.count(11), 0);
    }

    /** "(of those that are free and not bad, by the setting 2)" */
    private static void movedBySetting() {
        int[] targets = {1, 4, 6};
        for (int setting = 0; setting <= 2; setting++) {
            RetiredCells x = new RetiredCells();
            for (int page = 0; page < 6; page++) {
                x.write(0, page, 0);
            }
            x.giveBack(0, 1);
            x.giveBack(0, 4);
            for (int cell : new int[] {1, 6, 7, 8}) {
                x.error(cell);
            }
            x.set(2, setting);
            Runs.errors(x, 3, 3);
            due.is("moved by " + setting, x.page(0, 3, 0), targets[setting]);
        }
    }

    /** "a used one whose page is not pinned": a pinned one waits, though there is room. */
    private static void pinnedOneWaits() {
        RetiredCells x = new RetiredCells();
        x.write(0, 0, 0);
        x.pin(0, 0, true);
        Runs.errors(x, 0, 2);
        due.is("no cell is retired", x.error(0), 0);
        due.is("it waits", x.cell(0, 4), 1);
        due.is("it is used", x.cell(0, 0), 1);
        due.is("its page stays", x.page(0, 0, 0), 0);
        due.is("on no list", x.count(5), 0);
    }

    /** "if there is another free cell" */
    private static void noOtherCell() {
        RetiredCells x = Runs.fullMemory();
        x.giveBack(3, 9);
        Runs.errors(x, 0, 3);
        due.is("the one free cell is given", x.page(0, 0, 0), 39);
        due.is("no other", x.error(1) + x.error(1) + x.error(1), 0);
        due.is("it waits", x.cell(1, 4), 1);
        due.is("its page stays", x.page(0, 1, 0), 1);
        due.is("its value stays", x.page(0, 1, 1), 101);
        due.is("no move", x.count(10), 1);
    }

    /** "that is not bad": a free one that becomes bad in the same act is none. */
    private static void otherCellIsBad() {
        for (int free : new int[] {0, 39}) {
            RetiredCells x = Runs.fullMemory();
            x.giveBack(free / 10, free % 10);
            Runs.errors(x, free, 2);
            Runs.errors(x, 20, 2);
            due.is("set", x.set(0, 2), 3);
            due.is("the page stays, free " + free, x.page(2, 0, 0), 20);
            due.is("it waits, free " + free, x.cell(20, 4), 1);
            due.is("the free one is retired " + free, x.cell(free, 0), 2);
            due.is("the only one " + free, x.count(3), 1);
        }
    }

    /** "of those that are free and not bad": the bad ones are passed over, by each setting 2. */
    private static void otherCellIsNotBad() {
        int[] targets = {6, 7, 6};
        for (int errors = 2; errors <= 5; errors++) {
            for (int setting = 0; setting <= 2; setting++) {
                passedOver(errors, setting, targets[setting]);
            }
        }
    }

    private static void passedOver(int errors, int setting, int target) {
        RetiredCells x = new RetiredCells();
        x.set(0, 20);
        for (int page = 0; page < 5; page++) {
            x.write(0, page, page);
        }
        Runs.errors(x, 3, 2);
        Runs.errors(x, 5, errors);
        x.error(6);
        x.set(2, setting);
        x.set(0, 2);
        due.is("moved past the bad one by " + setting, x.page(0, 3, 0), target);
        due.is("value by " + setting, x.page(0, 3, 1), 3);
        due.is("both are retired by " + setting, x.cell(3, 0) + x.cell(5, 0), 4);
        due.is("one move by " + setting, x.count(10), 1);
    }

    /** "Otherwise it waits.": until it is possible, or it is not bad any more. */
    private static void waitsNoLonger() {
        RetiredCells x = Runs.fullMemory();
        Runs.errors(x, 0, 3);
        Runs.errors(x, 1, 4);
        Runs.errors(x, 2, 3);
        due.is("three wait", x.count(4), 3);
        x.pass(10);
        due.is("forgotten", x.cell(0, 4) + x.cell(2, 4), 0);
        due.is("one waits", x.count(4), 1);
        x.set(0, 4);
        due.is("none waits by a greater setting", x.count(4), 0);
        x.set(0, 3);
        due.is("it waits again", x.cell(1, 4), 1);
        x.giveBack(3, 9);
        due.is("moved when there is room", x.page(0, 1, 0), 39);
        due.is("retired", x.cell(1, 0), 2);
    }

    private static void lookingForBadCells() {
        behindGiveBack();
        behindPin();
        behindSet();
        behindWriteNothingIsLeft();
        behindHardError();
        behindStart();
        behindRestore();
        undoBringsWaitingOnesBack();
        behindEachThingOfAText();
        byTheirNumbers();
        manyAtOnce();
    }

    /** "Behind each act .. this is looked for": giveBack */
    private static void behindGiveBack() {
        RetiredCells x = new RetiredCells();
        x.write(0, 0, 5);
        x.pin(0, 0, true);
        Runs.errors(x, 0, 3);
        due.is("value", x.giveBack(0, 0), 5);
        due.is("the bad one is free, so it is retired", x.cell(0, 0), 2);
        due.is("on the list", x.list(0), 0);
        RetiredCells full = Runs.fullMemory();
        Runs.errors(full, 12, 3);
        full.giveBack(0, 0);
        due.is("room for a bad one", full.page(1, 2, 0), 0);
        due.is("no cell is free then", full.count(1), 0);
    }

    /** "Behind each act .. this is looked for": pin */
    private static void behindPin() {
        RetiredCells x = new RetiredCells();
        x.write(0, 0, 5);
        x.write(0, 1, 6);
        x.pin(0, 0, true);
        x.pin(0, 1, true);
        Runs.errors(x, 0, 3);
        Runs.errors(x, 1, 3);
        due.is("pages that are pinned then", x.pin(0, 1, false), 1);
        due.is("moved", x.page(0, 1, 0), 2);
        due.is("the other one waits", x.page(0, 0, 0), 0);
        RetiredCells full = Runs.fullMemory();
        full.pin(0, 0, true);
        Runs.errors(full, 0, 3);
        full.pin(0, 0, false);
        due.is("not pinned, but no room", full.reason(0), 3);
    }

    /** "Behind each act .. this is looked for": set */
    private static void behindSet() {
        RetiredCells x = new RetiredCells();
        x.write(0, 0, 5);
        Runs.errors(x, 0, 2);
        Runs.errors(x, 7, 2);
        x.error(8);
        x.set(0, 2);
        due.is("moved", x.page(0, 0, 0), 1);
        due.is("two are retired", x.count(3), 2);
        due.is("one error is not as great", x.cell(8, 0), 0);
        x.set(0, 1);
        due.is("now it is", x.cell(8, 0), 2);
    }

    /** "Behind each act": a write can bring a waiting one nothing. */
    private static void behindWriteNothingIsLeft() {
        RetiredCells x = new RetiredCells();
        x.write(0, 0, 5);
        x.pin(0, 0, true);
        Runs.errors(x, 0, 3);
        due.is("written where it waits", x.write(0, 0, 6), 0);
        due.is("it waits on", x.cell(0, 4), 1);
        due.is("its value", x.page(0, 0, 1), 6);
    }

    /** "Behind each act": a hard error in a cell that waits retires it once. */
    private static void behindHardError() {
        RetiredCells x = new RetiredCells();
        x.write(0, 0, 5);
        x.pin(0, 0, true);
        Runs.errors(x, 0, 3);
        due.is("the value is lost", x.hardError(0), 5);
        due.is("retired once", x.count(3), 1);
        due.is("once on the list", x.count(5), 1);
        due.is("none waits", x.count(4), 0);
        due.is("no page is moved", x.count(10), 0);
    }

    /** "Behind each act": a start leaves no bad cells. */
    private static void behindStart() {
        RetiredCells x = Runs.fullMemory();
        Runs.errors(x, 0, 3);
        due.is("free", x.start(), 40);
        due.is("none is retired", x.count(3), 0);
        due.is("none waits", x.count(4), 0);
    }

    /** "Behind each act": what is restored is as it was kept, as all was looked for then. */
    private static void behindRestore() {
        RetiredCells x = Runs.fullMemory();
        Runs.errors(x, 0, 3);
        x.keep();
        x.giveBack(3, 9);
        due.is("moved", x.page(0, 0, 0), 39);
        due.is("retired then", x.restore(), 0);
        due.is("it waits again", x.cell(0, 4), 1);
        due.is("in its cell", x.page(0, 0, 0), 0);
    }

    /** undo() is no act; what it brings back is as it was. */
    private static void undoBringsWaitingOnesBack() {
        RetiredCells x = Runs.fullMemory();
        Runs.errors(x, 0, 3);
        x.giveBack(3, 9);
        x.undo();
        due.is("it waits again", x.cell(0, 4), 1);
        due.is("in its cell", x.page(0, 0, 0), 0);
        due.is("the page is back", x.page(3, 9, 0), 39);
    }

    /** "and behind each thing of a text" */
    private static void behindEachThingOfAText() {
        RetiredCells x = Runs.fullMemory();
        Runs.errors(x, 0, 3);
        due.is("the room is taken by the bad one first", Due.perform(x, "f39;w40=1"), NOT_POSSIBLE);
        due.is("stopped at the write", x.stopped(0), 1);
        due.is("as no cell is free", x.stopped(1), FULL);
        due.is("two are given back", Due.perform(x, "f38;f39;w40=1"), 3);
        due.is("the bad one took the first of them", x.page(0, 0, 0), 38);
        due.is("the write took the second", x.page(4, 0, 0), 39);
        RetiredCells y = new RetiredCells();
        due.is("retired ahead of the next thing", Due.perform(y, "e0;e0;e0;w00=7;h0"), NOT_POSSIBLE);
        due.is("the fifth one", y.stopped(0), 4);
        RetiredCells z = new RetiredCells();
        due.is("moved ahead of the pin", Due.perform(z, "w00=7;e0;e0;e0;p00;e1;e1;e1"), 8);
        due.is("in its second cell", z.page(0, 0, 0), 1);
        due.is("where it waits", z.cell(1, 4), 1);
    }

    /** "with all cells, by their numbers" */
    private static void byTheirNumbers() {
        RetiredCells x = Runs.fullMemory();
        Runs.errors(x, 39, 3);
        Runs.errors(x, 21, 5);
        Runs.errors(x, 20, 3);
        x.giveBack(1, 0);
        due.is("the lowest is moved", x.page(2, 0, 0), 10);
        due.is("the others wait", x.count(4), 2);
        x.giveBack(1, 1);
        due.is("then the next one", x.page(2, 1, 0), 11);
        x.giveBack(0, 0);
        due.is("the last one of all cells", x.page(3, 9, 0), 0);
        RetiredCells first = Runs.fullMemory();
        Runs.errors(first, 0, 3);
        Runs.errors(first, 1, 3);
        first.giveBack(3, 9);
        due.is("the first one of all cells", first.page(0, 0, 0), 39);
        due.is("not the second", first.page(0, 1, 0), 1);
    }

    /** "with all cells, by their numbers": several that are possible go in one act. */
    private static void manyAtOnce() {
        RetiredCells x = new RetiredCells();
        for (int page = 0; page < 10; page++) {
            x.write(0, page, page);
        }
        for (int cell : new int[] {39, 9, 0, 15}) {
            Runs.errors(x, cell, 2);
        }
        x.set(0, 2);
        due.is("four are retired", x.count(3), 4);
        due.is("on the list by their numbers, 0", x.list(0), 0);
        due.is("on the list by their numbers, 1", x.list(1), 9);
        due.is("on the list by their numbers, 2", x.list(2), 15);
        due.is("on the list by their numbers, 3", x.list(3), 39);
        due.is("the first one's new cell", x.page(0, 0, 0), 10);
        due.is("the second one's new cell", x.page(0, 9, 0), 11);
        due.is("moves", x.program(0, 3), 2);
    }

    private static void hardErrors() {
        hardErrorInUsedCell();
        hardErrorInFreeCell();
        hardErrorInRetiredCell();
        hardErrorInAnyCase();
    }

    /** "A hard error .. : if it is used, its page has no cell any more (it is lost, with its value and its pin)" */
    private static void hardErrorInUsedCell() {
        RetiredCells x = new RetiredCells();
        x.write(2, 3, 44);
        x.pin(2, 3, true);
        due.is("the value", x.hardError(0), 44);
        due.is("no cell", x.page(2, 3, 0), NONE);
        due.is("no value", x.page(2, 3, 1), NONE);
        due.is("no pin", x.page(2, 3, 2), 0);
        due.is("no pinned page", x.count(7), 0);
        due.is("lost", x.count(11), 1);
        due.is("lost by the program", x.program(2, 2), 1);
        due.is("retired", x.cell(0, 0), 2);
        due.is("used by no program", x.cell(0, 2), NONE);
        x.write(2, 3, 45);
        due.is("not pinned when it is written again", x.page(2, 3, 2), 0);
    }

    /** "the cell is retired in any case": a free one */
    private static void hardErrorInFreeCell() {
        RetiredCells x = new RetiredCells();
        due.is("no value", x.hardError(39), 10000);
        due.is("retired", x.cell(39, 0), 2);
        due.is("not bad", x.cell(39, 1), 0);
        due.is("none is lost", x.count(11), 0);
    }

    /** "A hard error in a cell that is not retired" */
    private static void hardErrorInRetiredCell() {
        RetiredCells x = new RetiredCells();
        Runs.errors(x, 4, 3);
        due.is("retired by errors", x.hardError(4), NOT_POSSIBLE);
        x.hardError(5);
        due.is("retired by a hard error", x.hardError(5), NOT_POSSIBLE);
        due.is("hard errors so far", x.count(9), 1);
        due.is("two entries", x.count(5), 2);
    }

    /** "the cell is retired in any case": pinned, without another cell, with a full list */
    private static void hardErrorInAnyCase() {
        RetiredCells x = Runs.fullMemory();
        x.pin(0, 0, true);
        due.is("pinned, no other cell", x.hardError(0), 100);
        Runs.hardErrors(x, 1, 11);
        due.is("the list is full", x.count(5), 12);
        due.is("with a full list", x.hardError(39), 139);
        due.is("retired", x.cell(39, 0), 2);
        due.is("lost", x.count(11), 13);
    }

    // ---- the list, starts

    private static void listAndStarts() {
        endOfTheList();
        fewerThanTwelve();
        fullListByErrors();
        listFillsInOneLook();
        startTakesCells();
        startForgetsErrors();
        startFreesAllButTheList();
        startLeavesTheRest();
    }

    /** "A cell that is retired comes to the end of the list" */
    private static void endOfTheList() {
        RetiredCells x = new RetiredCells();
        x.write(0, 0, 0);
        x.hardError(39);
        Runs.errors(x, 20, 3);
        Runs.errors(x, 0, 3);
        due.is("the first", x.list(0), 39);
        due.is("a free bad one", x.list(1), 20);
        due.is("a moved one", x.list(2), 0);
        due.is("no more", x.list(3), NONE);
        due.is("the place of the last", x.cell(0, 5), 2);
    }

    /** "if that has fewer than 12 entries" */
    private static void fewerThanTwelve() {
        RetiredCells x = new RetiredCells();
        Runs.hardErrors(x, 10, 20);
        due.is("eleven entries", x.count(5), 11);
        x.hardError(30);
        due.is("the twelfth", x.cell(30, 5), 11);
        x.hardError(31);
        due.is("the thirteenth is on no list", x.cell(31, 5), NONE);
        due.is("it is retired", x.cell(31, 0), 2);
        due.is("entries", x.count(5), 12);
        due.is("retired ones", x.count(3), 13);
        due.is("the last entry", x.list(11), 30);
        due.is("none behind it", x.list(12), NONE);
    }

    /** "if that has fewer than 12 entries": cells that are retired by errors, moved ones too */
    private static void fullListByErrors() {
        RetiredCells x = new RetiredCells();
        x.set(0, 1);
        x.write(0, 0, 77);
        for (int cell = 0; cell < 14; cell++) {
            due.is("retired by an error in " + cell, x.error(cell), 1);
        }
        due.is("moved fourteen times", x.page(0, 0, 3), 14);
        due.is("its value goes with it", x.page(0, 0, 1), 77);
        due.is("twelve entries", x.count(5), 12);
        due.is("the thirteenth", x.cell(12, 5), NONE);
        due.is("behind a start", x.start(), 28);
        due.is("the fourteenth is free", x.cell(13, 0), 0);
    }

    /** "if that has fewer than 12 entries": when many are retired in one act */
    private static void listFillsInOneLook() {
        RetiredCells x = new RetiredCells();
        Runs.hardErrors(x, 30, 39);
        for (int cell = 0; cell < 5; cell++) {
            x.error(cell);
        }
        x.set(0, 1);
        due.is("fifteen are retired", x.count(3), 15);
        due.is("two of them came on the list", x.count(5), 12);
        due.is("0 came first", x.list(10), 0);
        due.is("1 came last", x.list(11), 1);
        due.is("2 did not", x.cell(2, 5), NONE);
        due.is("free behind a start", x.start(), 28);
    }

    /** "At a start all pages have no cell any more (none of them counts as lost)" */
    private static void startTakesCells() {
        RetiredCells x = Runs.fullMemory();
        x.pin(0, 0, true);
        x.pin(3, 9, true);
        x.start();
        for (int page = 0; page < 50; page++) {
            due.is("cell of page " + page, x.page(page / 10, page % 10, 0), NONE);
            due.is("value of page " + page, x.page(page / 10, page % 10, 1), NONE);
            due.is("pin of page " + page, x.page(page / 10, page % 10, 2), 0);
        }
        due.is("none is lost", x.count(11), 0);
        due.is("none has a cell", x.count(6), 0);
        due.is("none is pinned", x.count(7), 0);
        x.write(3, 9, 1);
        due.is("none is pinned when it is written again", x.count(7), 0);
    }

    /** "all counts of errors are 0" */
    private static void startForgetsErrors() {
        RetiredCells x = new RetiredCells();
        x.error(0);
        Runs.errors(x, 39, 2);
        x.write(0, 0, 0);
        Runs.errors(x, 5, 3);
        x.start();
        for (int cell = 0; cell < 40; cell++) {
            due.is("errors of " + cell, x.cell(cell, 1), 0);
        }
        due.is("a retired one's too, and it stays", x.cell(5, 0), 2);
        due.is("none is the worst", x.worst(), NONE);
    }

    /** "and all cells are free, but those on the list, which stay retired" */
    private static void startFreesAllButTheList() {
        RetiredCells x = new RetiredCells();
        x.hardError(0);
        Runs.hardErrors(x, 25, 39);
        x.write(0, 0, 1);
        due.is("free", x.start(), 28);
        due.is("first on the list", x.cell(0, 0), 2);
        due.is("last on the list", x.cell(35, 0), 2);
        for (int cell = 36; cell < 40; cell++) {
            due.is("on no list: " + cell, x.cell(cell, 0), 0);
            due.is("no place: " + cell, x.cell(cell, 5), NONE);
        }
        due.is("a used one", x.cell(1, 0), 0);
        due.is("used by no program", x.cell(1, 2), NONE);
        due.is("again", x.start(), 28);
        due.is("a free one can be given", x.next(), 1);
    }

    /** "The day goes on.", and nothing is told of settings and of what was so far. */
    private static void startLeavesTheRest() {
        RetiredCells x = new RetiredCells();
        x.set(0, 2);
        x.set(1, 6);
        x.set(2, 1);
        x.pass(5);
        Due.perform(x, "w00=1;w10=2;e0;e0;h1;e9");
        x.start();
        due.is("the day", x.count(0), 5);
        due.is("setting 0", x.count(13), 2);
        due.is("setting 1", x.count(14), 6);
        due.is("setting 2", x.count(15), 1);
        due.is("errors so far", x.count(8), 3);
        due.is("hard errors so far", x.count(9), 1);
        due.is("moves so far", x.count(10), 1);
        due.is("lost so far", x.count(11), 1);
        due.is("starts so far", x.count(12), 1);
        due.is("moves of the program", x.program(0, 3), 1);
        due.is("lost by the program", x.program(1, 2), 1);
        x.error(20);
        x.pass(1);
        due.is("the day 6 is the next one by which errors are forgotten", x.cell(20, 1), 0);
    }

    // ---- days

    private static void days() {
        firstDay();
        numberThatCanBeDivided();
        eachDayOfMany();
        eachDayByOne();
        dayNinetyNine();
        aboveZeroAlone();
        butRetiredOnes();
        settingOfDays();
        settingOfGiving();
    }

    /** "The day is 0 at first.": it does not begin, so nothing is forgotten on it. */
    private static void firstDay() {
        RetiredCells x = new RetiredCells();
        due.is("day", x.count(0), 0);
        x.error(0);
        due.is("one error stays", x.cell(0, 1), 1);
        x.pass(1);
        due.is("day 1", x.count(0), 1);
        due.is("it stays on the day 1", x.cell(0, 1), 1);
    }

    /** "Whenever a day ends, and the number of the day that begins can be divided by the setting 1" */
    private static void numberThatCanBeDivided() {
        RetiredCells x = new RetiredCells();
        x.set(0, 20);
        Runs.errors(x, 0, 5);
        x.pass(9);
        due.is("day 9", x.cell(0, 1), 5);
        x.pass(1);
        due.is("day 10", x.cell(0, 1), 4);
        x.pass(1);
        due.is("day 11", x.cell(0, 1), 4);
        x.set(1, 4);
        due.is("another setting forgets nothing", x.cell(0, 1), 4);
        x.pass(1);
        due.is("day 12 by 4", x.cell(0, 1), 3);
        x.set(1, 12);
        x.pass(11);
        due.is("day 23 by 12", x.cell(0, 1), 3);
        x.pass(1);
        due.is("day 24 by 12", x.cell(0, 1), 2);
    }

    /** "Whenever": several times in one call */
    private static void eachDayOfMany() {
        RetiredCells x = new RetiredCells();
        x.set(0, 20);
        Runs.errors(x, 0, 15);
        x.pass(99);
        due.is("nine times to the day 99", x.cell(0, 1), 6);
        x.pass(1);
        due.is("once more on the day 100", x.cell(0, 1), 5);
        x.pass(30);
        due.is("three times more", x.cell(0, 1), 2);
    }

    /** "can be divided by the setting 1": 1 divides each */
    private static void eachDayByOne() {
        RetiredCells x = new RetiredCells();
        x.set(0, 20);
        x.set(1, 1);
        Runs.errors(x, 0, 10);
        x.pass(1);
        due.is("day 1", x.cell(0, 1), 9);
        x.pass(8);
        due.is("day 9", x.cell(0, 1), 1);
        x.pass(99);
        due.is("not below 0", x.cell(0, 1), 0);
    }

    /** "can be divided by the setting 1": the greatest one */
    private static void dayNinetyNine() {
        RetiredCells x = new RetiredCells();
        x.set(1, 99);
        Runs.errors(x, 0, 2);
        x.pass(98);
        due.is("day 98", x.cell(0, 1), 2);
        x.pass(1);
        due.is("day 99", x.cell(0, 1), 1);
        x.pass(98);
        due.is("day 197", x.cell(0, 1), 1);
        x.pass(1);
        due.is("day 198", x.cell(0, 1), 0);
    }

    /** "each count of errors that is above 0 becomes 1 less" */
    private static void aboveZeroAlone() {
        RetiredCells x = Runs.fullMemory();
        x.error(0);
        Runs.errors(x, 39, 4);
        x.giveBack(2, 0);
        Runs.errors(x, 20, 2);
        x.pass(10);
        due.is("one is none", x.cell(0, 1), 0);
        due.is("none stays none", x.cell(1, 1), 0);
        due.is("a free one", x.cell(20, 1), 1);
        due.is("no cell was taken by the bad one", x.page(3, 9, 0), 20);
        x.pass(10);
        due.is("none stays none again", x.cell(0, 1), 0);
    }

    /** "but those of retired cells" */
    private static void butRetiredOnes() {
        RetiredCells x = new RetiredCells();
        Runs.errors(x, 0, 3);
        Runs.errors(x, 1, 2);
        x.hardError(1);
        x.write(0, 0, 0);
        x.pin(0, 0, true);
        Runs.errors(x, 2, 4);
        x.pass(10);
        due.is("retired by errors", x.cell(0, 1), 3);
        due.is("retired by a hard error", x.cell(1, 1), 2);
        due.is("a waiting one is not retired", x.cell(2, 1), 3);
        due.is("it waits still", x.cell(2, 4), 1);
        due.is("one less", x.pass(10), 0);
        due.is("it waits no more", x.cell(2, 4), 0);
        due.is("the retired ones are so still", x.cell(0, 0) + x.cell(1, 0), 4);
    }

    /** "the setting 1 (1 to 99; 10 at first)" */
    private static void settingOfDays() {
        RetiredCells x = new RetiredCells();
        due.is("at first", x.count(14), 10);
        due.is("0", x.set(1, 0), BAD_VALUE);
        due.is("100", x.set(1, 100), BAD_VALUE);
        due.is("1", x.set(1, 1), 10);
        due.is("99", x.set(1, 99), 1);
        due.is("told", x.count(14), 99);
    }

    /** "The setting 2 is 0 to 2; 0 at first." */
    private static void settingOfGiving() {
        RetiredCells x = new RetiredCells();
        due.is("at first", x.count(15), 0);
        due.is("-1", x.set(2, -1), BAD_VALUE);
        due.is("3", x.set(2, 3), BAD_VALUE);
        due.is("2", x.set(2, 2), 0);
        due.is("1", x.set(2, 1), 2);
        due.is("0", x.set(2, 0), 1);
        due.is("told", x.count(15), 0);
    }

    // ---- history

    private static void history() {
        fourStatesAtMost();
        oldestIsDropped();
        undoRemovesTheLatest();
        recordsTheStateBefore();
        noneRecordsNothing();
        oneSnapshot();
        stateIsEverything();
        listIsOfTheState();
        butTextHistorySnapshotStop();
    }

    /** "A history of at most 4 states is kept" */
    private static void fourStatesAtMost() {
        RetiredCells x = new RetiredCells();
        int[] sizes = {1, 2, 3, 4, 4, 4, 4, 4, 4};
        due.is("none at first", x.count(16), 0);
        for (int i = 0; i < sizes.length; i++) {
            x.pass(1);
            due.is("behind " + (i + 1) + " acts", x.count(16), sizes[i]);
        }
        for (int left = 3; left >= 0; left--) {
            due.is("undo", x.undo(), left);
        }
        due.is("a fifth time", x.undo(), NONE);
    }

    /** "when one more is recorded, the oldest one is dropped" */
    private static void oldestIsDropped() {
        for (int acts = 4; acts <= 13; acts++) {
            RetiredCells x = new RetiredCells();
            for (int i = 0; i < acts; i++) {
                x.pass(1);
            }
            for (int back = 1; back <= 4; back++) {
                x.undo();
                due.is(acts + " acts, day behind undo " + back, x.count(0), acts - back);
            }
            x.undo();
            due.is(acts + " acts, no state is left", x.count(0), acts - 4);
        }
    }

    /** "undo() removes and restores the latest one" */
    private static void undoRemovesTheLatest() {
        RetiredCells x = new RetiredCells();
        for (int value = 1; value <= 6; value++) {
            x.write(0, 0, value);
        }
        due.is("left", x.undo(), 3);
        due.is("the latest one", x.page(0, 0, 1), 5);
        x.write(0, 0, 7);
        x.write(0, 0, 8);
        due.is("left", x.undo(), 3);
        due.is("recorded since", x.page(0, 0, 1), 7);
        due.is("left", x.undo(), 2);
        due.is("the one from before", x.page(0, 0, 1), 5);
        due.is("left", x.undo(), 1);
        due.is("the one before that", x.page(0, 0, 1), 4);
    }

    /** "Each call of a method that is described as an act .. records the state that was before it." */
    private static void recordsTheStateBefore() {
        recordedBy("write", x -> x.write(0, 0, 5));
        recordedBy("write, a new page", x -> x.write(0, 1, 5));
        recordedBy("giveBack", x -> x.giveBack(0, 0));
        recordedBy("pin", x -> x.pin(0, 0, true));
        recordedBy("error", x -> x.error(0));
        recordedBy("error that moves", x -> x.error(2));
        recordedBy("hardError", x -> x.hardError(0));
        recordedBy("start", x -> x.start());
        recordedBy("pass", x -> x.pass(9));
        recordedBy("set 0", x -> x.set(0, 1));
        recordedBy("set 1", x -> x.set(1, 1));
        recordedBy("set 2", x -> x.set(2, 1));
        recordedBy("perform", x -> x.perform());
        recordedBy("restore", x -> x.restore());
    }

    /** The act comes once behind another act, and once behind an undo. */
    private static void recordedBy(String name, Act act) {
        for (int undone = 0; undone < 2; undone++) {
            RetiredCells x = new RetiredCells();
            x.keep();
            Due.text(x, "w01=5;f00;h7");
            x.write(0, 0, 4);
            x.write(4, 9, 3);
            x.hardError(1);
            Runs.errors(x, 2, 2);
            x.undo();
            x.error(2);
            if (undone == 1) {
                x.undo();
                x.error(2);
                x.error(9);
                x.undo();
            }
            int[] was = Runs.told(x);
            int states = x.count(16);
            due.is("no error by " + name, act.on(x) >= 0 ? 1 : 0, 1);
            due.is("one state by " + name, x.count(16), Math.min(4, states + 1));
            due.is("undo of " + name, x.undo(), Math.min(3, states));
            was[Runs.AT_HISTORY] = x.count(16);
            due.same("the state before " + name, Runs.told(x), was);
        }
    }

    /** "and returns no error and not NONE" */
    private static void noneRecordsNothing() {
        RetiredCells x = new RetiredCells();
        due.is("giveBack", x.giveBack(0, 0), NONE);
        due.is("set", x.set(0, 3), NONE);
        due.is("restore", x.restore(), NONE);
        due.is("undo", x.undo(), NONE);
        due.is("pin, an error", x.pin(0, 0, true), NOT_POSSIBLE);
        due.is("perform, a fault", x.perform(), -100);
        due.is("nothing is recorded", x.count(16), 0);
        x.write(0, 0, 1);
        due.is("pin", x.pin(0, 0, false), NONE);
        due.is("perform, stopped", Due.perform(x, "h0;e0"), NOT_POSSIBLE);
        due.is("the write alone is recorded", x.count(16), 1);
        due.is("perform of what is NONE", Due.perform(x, "f49"), 1);
        due.is("is an act", x.count(16), 2);
    }

    /** "There is one snapshot, empty at first." */
    private static void oneSnapshot() {
        RetiredCells x = new RetiredCells();
        due.is("empty", x.restore(), NONE);
        x.hardError(0);
        due.is("empty still", x.restore(), NONE);
        due.is("kept", x.keep(), 1);
        x.hardError(1);
        due.is("kept in its place", x.keep(), 2);
        x.start();
        x.hardError(2);
        due.is("the later one", x.restore(), 2);
        due.is("again", x.restore(), 2);
    }

    /** "A state is everything": told by undo and by restore */
    private static void stateIsEverything() {
        RetiredCells x = new RetiredCells();
        Due.perform(x, "w00=1;w49=2;p00;w10=3;e2;e2;e2;h1;e0;.9");
        x.set(2, 2);
        x.set(1, 11);
        x.keep();
        x.clearText();
        int[] was = Runs.told(x);
        due.is("performed", Due.perform(x, "p00;f49;w11=5;e0;e0;h7;.99;s;w22=2;e9;p22"), 11);
        x.undo();
        x.clearText();
        due.same("undone", Runs.told(x), was);
        x.set(0, 1);
        x.set(1, 1);
        x.set(2, 1);
        due.is("performed", Due.perform(x, "p00;f49;w11=5;e30;h7;.99;s;w22=2;e9;p22;h20"), 11);
        x.restore();
        x.clearText();
        was[Runs.AT_HISTORY] = 4;
        due.same("restored", Runs.told(x), was);
    }

    /** "A state is everything": lists that are no beginnings of one another */
    private static void listIsOfTheState() {
        RetiredCells x = new RetiredCells();
        x.hardError(5);
        x.hardError(6);
        x.keep();
        x.undo();
        x.undo();
        x.hardError(7);
        due.is("the list of the state that was restored", x.restore() * 100 + x.list(0) * 10 + x.list(1), 256);
        due.is("its cell", x.cell(5, 0) * 10 + x.cell(7, 0), 20);
        x.undo();
        due.is("the list of the state that was undone", x.list(0), 7);
        due.is("it has one entry", x.list(1), NONE);
        due.is("its cell", x.cell(5, 0) * 10 + x.cell(7, 0), 2);
    }

    /** "but the text, the history, the snapshot and the latest stop" */
    private static void butTextHistorySnapshotStop() {
        RetiredCells x = new RetiredCells();
        x.pass(1);
        x.keep();
        Due.text(x, "s;e9");
        x.pass(1);
        Due.perform(x, ".1;p00");
        x.hardError(3);
        x.keep();
        due.is("undo", x.undo(), 2);
        due.is("the text stays", x.count(17), 6);
        due.is("the stop's number stays", x.stopped(0), 1);
        due.is("the stop's error stays", x.stopped(1), NOT_POSSIBLE);
        due.is("the snapshot stays", x.restore(), 1);
        due.is("a restore records", x.count(16), 3);
        x.pass(1);
        due.is("restore again", x.restore(), 1);
        due.is("the text stays behind restore", x.count(17), 6);
        due.is("the stop stays behind restore", x.stopped(0), 1);
        due.is("the history is not brought back", x.count(16), 4);
    }
}
