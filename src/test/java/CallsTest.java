/** The errors of calls, and the ranges and answers of the promises 2 to 9 and 14 to 26, sentence by sentence. */
public final class CallsTest {
    private static final int UNKNOWN = -1;
    private static final int BAD_VALUE = -2;
    private static final int FULL = -3;
    private static final int NOT_POSSIBLE = -4;
    private static final int NONE = -5;

    private static final Due due = new Due();

    /** A call whose answer matters. */
    private interface Call {
        int on(RetiredCells x);
    }

    public static void main(String[] args) {
        constants();
        orderOfChecks();
        ranges();
        refusedCalls();
        refusedCallsOfAFullMemory();
        answersOfActs();
        lastDays();
        historyAndSnapshot();
        toldOfPages();
        toldOfPrograms();
        toldOfCells();
        toldOfTheList();
        toldAhead();
        counts();
        tellingChangesNothing();
        usedForFiveHundredCalls();
        due.end();
    }

    private static void constants() {
        due.is("UNKNOWN", RetiredCells.UNKNOWN, -1);
        due.is("BAD_VALUE", RetiredCells.BAD_VALUE, -2);
        due.is("FULL", RetiredCells.FULL, -3);
        due.is("NOT_POSSIBLE", RetiredCells.NOT_POSSIBLE, -4);
        due.is("NONE", RetiredCells.NONE, -5);
    }

    // ---- "the order of the @return line is the order of the checks"

    private static void orderOfChecks() {
        orderOfWrite();
        orderOfPin();
        orderOfPass();
        orderOfSet();
        orderOfWhatIsTold();
        noneComesLast();
    }

    private static void orderOfWrite() {
        RetiredCells x = Runs.fullMemory();
        due.is("program ahead of value", x.write(5, 0, 10000), UNKNOWN);
        due.is("page ahead of value", x.write(4, 10, -1), UNKNOWN);
        due.is("program ahead of full", x.write(-1, 0, 0), UNKNOWN);
        due.is("page ahead of full", x.write(4, -1, 0), UNKNOWN);
        due.is("value ahead of full", x.write(4, 0, 10000), BAD_VALUE);
        due.is("value ahead of full, below", x.write(4, 0, -1), BAD_VALUE);
        due.is("full", x.write(4, 0, 0), FULL);
        due.is("value of a page with a cell", x.write(0, 0, 10000), BAD_VALUE);
    }

    private static void orderOfPin() {
        RetiredCells x = new RetiredCells();
        due.is("program ahead of no cell", x.pin(5, 0, true), UNKNOWN);
        due.is("page ahead of no cell", x.pin(0, 10, true), UNKNOWN);
        due.is("no cell ahead of so already", x.pin(0, 0, false), NOT_POSSIBLE);
        x.write(0, 0, 0);
        due.is("so already", x.pin(0, 0, false), NONE);
        x.pin(0, 0, true);
        due.is("so already, pinned", x.pin(0, 0, true), NONE);
        x.giveBack(0, 0);
        due.is("no cell any more", x.pin(0, 0, true), NOT_POSSIBLE);
    }

    private static void orderOfPass() {
        RetiredCells x = new RetiredCells();
        Runs.untilDay(x, 9999);
        due.is("too many days ahead of full", x.pass(100), BAD_VALUE);
        due.is("no days ahead of full", x.pass(0), BAD_VALUE);
        due.is("full", x.pass(99), FULL);
    }

    private static void orderOfSet() {
        RetiredCells x = new RetiredCells();
        due.is("setting ahead of value", x.set(3, 100), UNKNOWN);
        due.is("setting ahead of value, below", x.set(-1, -1), UNKNOWN);
        due.is("setting with a value that others have", x.set(3, 1), UNKNOWN);
        due.is("value", x.set(0, 21), BAD_VALUE);
        due.is("so already", x.set(0, 3), NONE);
    }

    private static void orderOfWhatIsTold() {
        RetiredCells x = new RetiredCells();
        due.is("page: program ahead of what", x.page(5, 0, 4), UNKNOWN);
        due.is("page: page ahead of what", x.page(0, 10, -1), UNKNOWN);
        due.is("page: what", x.page(0, 0, 4), BAD_VALUE);
        due.is("program: program ahead of what", x.program(5, 4), UNKNOWN);
        due.is("program: what", x.program(4, 4), BAD_VALUE);
        due.is("cell: cell ahead of what", x.cell(40, 6), UNKNOWN);
        due.is("cell: what", x.cell(39, 6), BAD_VALUE);
        due.is("errorsLeft: cell", x.errorsLeft(40), UNKNOWN);
    }

    /** "NONE is no error; it is returned only if no error applies." */
    private static void noneComesLast() {
        RetiredCells x = new RetiredCells();
        due.is("giveBack without a cell", x.giveBack(5, 0), UNKNOWN);
        due.is("pin so already", x.pin(0, 0, false), NOT_POSSIBLE);
        due.is("what of a page without a cell", x.page(0, 0, -1), BAD_VALUE);
        due.is("what of a cell that is not used", x.cell(0, -1), BAD_VALUE);
        due.is("what of no stop", x.stopped(2), BAD_VALUE);
        due.is("rank of an empty list", x.list(-1), BAD_VALUE);
        due.is("errorsLeft of a retired cell", x.hardError(0) + x.errorsLeft(0), 10000 + NOT_POSSIBLE);
    }

    // ---- ranges of the arguments

    private static void ranges() {
        rangesOfPages();
        rangesOfCells();
        rangesOfWhat();
        rangesOfSettings();
        rangeOfDays();
    }

    private static void rangesOfPages() {
        for (int program = -3; program < 8; program++) {
            for (int page = -3; page < 14; page++) {
                boolean known = program >= 0 && program <= 4 && page >= 0 && page <= 9;
                String name = "(" + program + ", " + page + ")";
                RetiredCells x = new RetiredCells();
                due.is("page" + name, x.page(program, page, 0), known ? NONE : UNKNOWN);
                due.is("giveBack" + name, x.giveBack(program, page), known ? NONE : UNKNOWN);
                due.is("pin" + name, x.pin(program, page, true), known ? NOT_POSSIBLE : UNKNOWN);
                due.is("write" + name, x.write(program, page, 7), known ? 0 : UNKNOWN);
                due.is("used by the program" + name, x.cell(0, 2), known ? program : NONE);
                due.is("used by the page" + name, x.cell(0, 3), known ? page : NONE);
            }
        }
    }

    private static void rangesOfCells() {
        for (int cell = -5; cell < 45; cell++) {
            boolean known = cell >= 0 && cell <= 39;
            RetiredCells x = new RetiredCells();
            due.is("cell " + cell, x.cell(cell, 0), known ? 0 : UNKNOWN);
            due.is("reason " + cell, x.reason(cell), known ? 1 : UNKNOWN);
            due.is("errorsLeft " + cell, x.errorsLeft(cell), known ? 3 : UNKNOWN);
            due.is("error " + cell, x.error(cell), known ? 0 : UNKNOWN);
            due.is("hardError " + cell, x.hardError(cell), known ? 10000 : UNKNOWN);
            due.is("error in a retired one " + cell, x.error(cell), known ? NOT_POSSIBLE : UNKNOWN);
            due.is("reason of a retired one " + cell, x.reason(cell), known ? 0 : UNKNOWN);
        }
    }

    private static void rangesOfWhat() {
        RetiredCells x = new RetiredCells();
        for (int what = -5; what < 25; what++) {
            due.is("page what " + what, x.page(0, 0, what) == BAD_VALUE ? 0 : 1, what >= 0 && what <= 3 ? 1 : 0);
            due.is("program what " + what, x.program(0, what) == BAD_VALUE ? 0 : 1, what >= 0 && what <= 3 ? 1 : 0);
            due.is("cell what " + what, x.cell(0, what) == BAD_VALUE ? 0 : 1, what >= 0 && what <= 5 ? 1 : 0);
            due.is("count what " + what, x.count(what) == BAD_VALUE ? 0 : 1, what >= 0 && what <= 17 ? 1 : 0);
            due.is("stopped what " + what, x.stopped(what) == BAD_VALUE ? 0 : 1, what >= 0 && what <= 1 ? 1 : 0);
            due.is("list rank " + what, x.list(what), what < 0 ? BAD_VALUE : NONE);
        }
        for (int program = -3; program < 8; program++) {
            due.is("program " + program, x.program(program, 0), program >= 0 && program <= 4 ? 0 : UNKNOWN);
        }
    }

    private static void rangesOfSettings() {
        int[] lowest = {1, 1, 0};
        int[] highest = {20, 99, 2};
        int[] first = {3, 10, 0};
        for (int which = -3; which < 6; which++) {
            for (int value = -3; value < 104; value++) {
                RetiredCells x = new RetiredCells();
                int want = UNKNOWN;
                if (which >= 0 && which <= 2) {
                    boolean fits = value >= lowest[which] && value <= highest[which];
                    want = !fits ? BAD_VALUE : value == first[which] ? NONE : first[which];
                }
                due.is("set(" + which + ", " + value + ")", x.set(which, value), want);
                due.is("recorded by set(" + which + ", " + value + ")", x.count(16), want >= 0 ? 1 : 0);
                for (int told = 0; told < 3; told++) {
                    due.is("setting " + told + " by set(" + which + ", " + value + ")", x.count(13 + told),
                        want >= 0 && told == which ? value : first[told]);
                }
            }
        }
    }

    private static void rangeOfDays() {
        for (int days = -3; days < 104; days++) {
            RetiredCells x = new RetiredCells();
            boolean fits = days >= 1 && days <= 99;
            due.is("pass(" + days + ")", x.pass(days), fits ? 0 : BAD_VALUE);
            due.is("day behind pass(" + days + ")", x.count(0), fits ? days : 0);
        }
    }

    // ---- "A call that returns an error or NONE changes nothing"

    /** With a full history, a snapshot, a text, a stop, and cells of each kind. */
    private static RetiredCells busy() {
        RetiredCells x = new RetiredCells();
        x.set(2, 2);
        x.write(0, 0, 10);
        x.write(0, 1, 20);
        x.write(1, 0, 30);
        x.pin(0, 0, true);
        Runs.errors(x, 0, 3);
        x.error(5);
        Runs.errors(x, 1, 3);
        x.keep();
        Due.perform(x, "h9;h9");
        x.pass(7);
        x.hardError(30);
        Due.text(x, "w22=5;e7");
        return x;
    }

    private static RetiredCells full() {
        RetiredCells x = Runs.fullMemory();
        Runs.untilDay(x, 9990);
        x.keep();
        x.pin(1, 1, true);
        Runs.errors(x, 11, 3);
        for (int i = 0; i < 60; i++) {
            x.type(i % 2 == 0 ? 's' : ';');
        }
        return x;
    }

    private static void refusedCalls() {
        refused("write, program", false, x -> x.write(5, 0, 0), UNKNOWN);
        refused("write, page", false, x -> x.write(0, 10, 0), UNKNOWN);
        refused("write, value", false, x -> x.write(4, 0, 10000), BAD_VALUE);
        refused("write, value of a page with a cell", false, x -> x.write(0, 0, -1), BAD_VALUE);
        refused("giveBack, program", false, x -> x.giveBack(-1, 0), UNKNOWN);
        refused("giveBack, page", false, x -> x.giveBack(0, -1), UNKNOWN);
        refused("giveBack, no cell", false, x -> x.giveBack(4, 9), NONE);
        refused("pin, program", false, x -> x.pin(5, 0, true), UNKNOWN);
        refused("pin, page", false, x -> x.pin(4, 10, true), UNKNOWN);
        refused("pin, no cell", false, x -> x.pin(4, 9, true), NOT_POSSIBLE);
        refused("pin, pinned already", false, x -> x.pin(0, 0, true), NONE);
        refused("pin, not pinned", false, x -> x.pin(0, 1, false), NONE);
        refused("error, cell", false, x -> x.error(40), UNKNOWN);
        refused("error, retired", false, x -> x.error(1), NOT_POSSIBLE);
        refused("hardError, cell", false, x -> x.hardError(-1), UNKNOWN);
        refused("hardError, retired", false, x -> x.hardError(30), NOT_POSSIBLE);
        refused("pass, no days", false, x -> x.pass(0), BAD_VALUE);
        refused("pass, many days", false, x -> x.pass(100), BAD_VALUE);
        refused("set, setting", false, x -> x.set(3, 0), UNKNOWN);
        refused("set, value", false, x -> x.set(0, 21), BAD_VALUE);
        refused("set, so already", false, x -> x.set(2, 2), NONE);
        refused("stopped, what", false, x -> x.stopped(2), BAD_VALUE);
    }

    private static void refusedCallsOfAFullMemory() {
        refused("write, no cell is free", true, x -> x.write(4, 0, 1), FULL);
        refused("write, value, no cell is free", true, x -> x.write(4, 0, -1), BAD_VALUE);
        refused("pass, beyond 9999", true, x -> x.pass(10), FULL);
        refused("type, 60 characters", true, x -> x.type('w'), FULL);
        refused("perform, a fault", true, x -> x.perform(), -160);
        refused("pin, no cell", true, x -> x.pin(4, 4, false), NOT_POSSIBLE);
        refused("pin, pinned already", true, x -> x.pin(1, 1, true), NONE);
        refused("giveBack, no cell", true, x -> x.giveBack(4, 4), NONE);
        refused("set, so already", true, x -> x.set(1, 10), NONE);
    }

    /** Two objects are brought to the same state; the one that refused the call must go on as the other does. */
    private static void refused(String name, boolean full, Call call, int answer) {
        RetiredCells x = full ? full() : busy();
        RetiredCells twin = full ? full() : busy();
        due.is(name, call.on(x), answer);
        due.same(name + ", told", Runs.told(x), Runs.told(twin));
        for (int i = 0; i < 5; i++) {
            due.is(name + ", undo", x.undo(), twin.undo());
            due.same(name + ", told behind undo", Runs.told(x), Runs.told(twin));
        }
        due.is(name + ", restore", x.restore(), twin.restore());
        due.same(name + ", told behind restore", Runs.told(x), Runs.told(twin));
        due.is(name + ", perform", x.perform(), twin.perform());
        due.same(name + ", told behind perform", Runs.told(x), Runs.told(twin));
    }

    // ---- answers of acts

    private static void answersOfActs() {
        answersOfWrite();
        answersOfGiveBack();
        answersOfPin();
        answersOfError();
        answersOfHardError();
        answersOfStart();
        answersOfPass();
        answersOfSet();
    }

    /** "Returns the cell where the value lies then"; "FULL if it has no cell, and none is free" */
    private static void answersOfWrite() {
        RetiredCells x = Runs.fullMemory();
        due.is("none is free, but it has a cell", x.write(3, 9, 1), 39);
        due.is("the value", x.page(3, 9, 1), 1);
        x.giveBack(3, 9);
        due.is("one is free", x.write(4, 9, 2), 39);
        due.is("none is free", x.write(3, 9, 3), FULL);
        x.hardError(39);
        due.is("none is free, as it is retired", x.write(4, 9, 3), FULL);
        due.is("no value", x.page(4, 9, 1), NONE);
        RetiredCells moved = new RetiredCells();
        moved.write(0, 0, 1);
        Runs.errors(moved, 0, 3);
        due.is("where it was moved", moved.write(0, 0, 2), 1);
        RetiredCells retired = new RetiredCells();
        Runs.hardErrors(retired, 0, 39);
        due.is("all are retired", retired.write(0, 0, 0), FULL);
        due.is("free behind a start", retired.start(), 28);
        due.is("one that came back", retired.write(0, 0, 0), 12);
    }

    /** "Returns the value that it had"; "NONE if it has no cell" */
    private static void answersOfGiveBack() {
        RetiredCells x = new RetiredCells();
        x.write(0, 0, 0);
        x.write(0, 1, 9999);
        due.is("the least value", x.giveBack(0, 0), 0);
        due.is("the greatest value", x.giveBack(0, 1), 9999);
        due.is("none any more", x.giveBack(0, 1), NONE);
        x.write(0, 2, 3);
        x.write(0, 2, 4);
        Runs.errors(x, 0, 3);
        due.is("the latest value, moved", x.giveBack(0, 2), 4);
        x.write(0, 3, 5);
        x.hardError(x.page(0, 3, 0));
        due.is("lost", x.giveBack(0, 3), NONE);
        x.write(0, 4, 6);
        x.start();
        due.is("behind a start", x.giveBack(0, 4), NONE);
    }

    /** "Returns how many pages are pinned then" */
    private static void answersOfPin() {
        RetiredCells x = Runs.fullMemory();
        for (int page = 0; page < 40; page++) {
            due.is("pinned " + page, x.pin(page / 10, page % 10, true), page + 1);
        }
        for (int page = 0; page < 40; page++) {
            due.is("not pinned " + page, x.pin(page / 10, page % 10, false), 39 - page);
        }
    }

    /** "Returns how many cells are retired by it" */
    private static void answersOfError() {
        RetiredCells x = new RetiredCells();
        x.write(0, 0, 0);
        x.write(0, 1, 0);
        x.pin(0, 1, true);
        due.is("not bad yet", x.error(0) + x.error(0), 0);
        due.is("moved", x.error(0), 1);
        due.is("pinned", x.error(1) + x.error(1) + x.error(1) + x.error(1), 0);
        due.is("free", x.error(9) + x.error(9) + x.error(9), 1);
        due.is("retired", x.error(9), NOT_POSSIBLE);
    }

    /** "Returns the value that is lost"; "10000 if none is lost" */
    private static void answersOfHardError() {
        RetiredCells x = new RetiredCells();
        x.write(0, 0, 0);
        x.write(0, 1, 9999);
        due.is("the least value", x.hardError(0), 0);
        due.is("the greatest value", x.hardError(1), 9999);
        due.is("none", x.hardError(2), 10000);
        x.write(0, 2, 5);
        x.giveBack(0, 2);
        due.is("given back ahead of it", x.hardError(3), 10000);
        due.is("pages lost", x.count(11), 2);
    }

    /** "Returns how many cells are free then." */
    private static void answersOfStart() {
        RetiredCells x = Runs.fullMemory();
        for (int starts = 1; starts <= 14; starts++) {
            x.hardError(40 - starts);
            due.is("free behind the start " + starts, x.start(), Math.max(28, 40 - starts));
            due.is("starts so far", x.count(12), starts);
            due.is("the day", x.count(0), 0);
        }
    }

    /** "Returns how many cells are bad and wait then" */
    private static void answersOfPass() {
        RetiredCells x = Runs.fullMemory();
        for (int cell = 0; cell < 5; cell++) {
            Runs.errors(x, cell, 3 + cell);
        }
        due.is("all five", x.pass(9), 5);
        due.is("day 10", x.pass(1), 4);
        due.is("day 29", x.pass(19), 3);
        due.is("day 50", x.pass(21), 0);
        due.is("they are not retired", x.count(3), 0);
    }

    /** "Returns the previous one"; "NONE if it is so already" */
    private static void answersOfSet() {
        RetiredCells x = new RetiredCells();
        due.is("from 3 to 7", x.set(0, 7), 3);
        due.is("7 already", x.set(0, 7), NONE);
        due.is("from 7 to 3", x.set(0, 3), 7);
        due.is("from 10 to 3", x.set(1, 3), 10);
        due.is("3 already", x.set(1, 3), NONE);
        due.is("from 0 to 1", x.set(2, 1), 0);
        due.is("1 already", x.set(2, 1), NONE);
        due.is("from 1 to 0", x.set(2, 0), 1);
        due.is("recorded", x.count(16), 4);
    }

    /** "FULL if the day would be beyond 9999" */
    private static void lastDays() {
        for (int first : new int[] {9900, 9901, 9998, 9999}) {
            for (int days : new int[] {1, 2, 98, 99}) {
                RetiredCells x = new RetiredCells();
                Runs.untilDay(x, first);
                boolean fits = first + days <= 9999;
                due.is(days + " days on the day " + first, x.pass(days), fits ? 0 : FULL);
                due.is("day then", x.count(0), fits ? first + days : first);
                due.is("recorded", x.undo(), 3);
            }
        }
        RetiredCells x = new RetiredCells();
        Runs.untilDay(x, 9989);
        x.error(3);
        due.is("on the day 9990", x.pass(1) + x.cell(3, 1), 0);
        x.error(3);
        due.is("on the day 9999", x.pass(9) + x.cell(3, 1), 1);
        x.start();
        due.is("the day goes on behind a start", x.pass(1), FULL);
    }

    // ---- history and snapshot

    private static void historyAndSnapshot() {
        RetiredCells x = new RetiredCells();
        due.is("undo of an empty history", x.undo(), NONE);
        due.is("restore without a snapshot", x.restore(), NONE);
        x.hardError(0);
        due.is("one act, none is left", x.undo(), 0);
        due.is("undo of an empty one again", x.undo(), NONE);
        due.is("nothing is retired", x.keep(), 0);
        Runs.hardErrors(x, 0, 14);
        due.is("retired ones that are restored", x.restore(), 0);
        due.is("the states", x.count(16), 4);
        due.is("undo of restore", x.undo(), 3);
        due.is("all retired, beyond the list too", x.keep(), 15);
        x.start();
        due.is("restored with those on no list", x.restore(), 15);
        due.is("the snapshot stays", x.restore(), 15);
        for (int i = 0; i < 4; i++) {
            x.undo();
        }
        due.is("no undo of keep", x.restore(), 15);
    }

    // ---- what is told

    /** "both NONE without a cell", "(1, otherwise 0)", "how often it was moved since it was given a cell" */
    private static void toldOfPages() {
        RetiredCells x = new RetiredCells();
        int[] never = {NONE, NONE, 0, 0};
        int[] written = {0, 5, 0, 0};
        int[] moved = {1, 5, 0, 1};
        int[] pinned = {1, 6, 1, 1};
        int[] anew = {2, 7, 0, 0};
        page("never", x, never);
        x.write(1, 1, 5);
        page("written", x, written);
        Runs.errors(x, 0, 3);
        page("moved", x, moved);
        x.write(1, 1, 6);
        x.pin(1, 1, true);
        page("pinned", x, pinned);
        x.giveBack(1, 1);
        x.hardError(1);
        x.write(1, 1, 7);
        page("given a cell anew", x, anew);
        due.is("moves of the program stay", x.program(1, 3), 1);
        Runs.errors(x, 2, 3);
        x.hardError(3);
        x.write(1, 1, 7);
        due.is("lost and given a cell anew", x.page(1, 1, 3), 0);
        Runs.errors(x, 4, 3);
        x.start();
        x.write(1, 1, 7);
        due.is("given a cell anew behind a start", x.page(1, 1, 3), 0);
    }

    private static void page(String name, RetiredCells x, int[] want) {
        for (int what = 0; what < want.length; what++) {
            due.is("page " + name + ", what " + what, x.page(1, 1, what), want[what]);
        }
    }

    private static void toldOfPrograms() {
        RetiredCells x = new RetiredCells();
        for (int page = 0; page < 10; page++) {
            x.write(4, page, page);
            x.pin(4, page, true);
        }
        due.is("all its pages", x.program(4, 0), 10);
        due.is("all pinned", x.program(4, 1), 10);
        due.is("none of a neighbour", x.program(3, 0) + x.program(3, 1), 0);
        x.hardError(0);
        x.hardError(9);
        due.is("two less", x.program(4, 0), 8);
        due.is("two less pinned", x.program(4, 1), 8);
        due.is("two lost", x.program(4, 2), 2);
        x.pin(4, 5, false);
        Runs.errors(x, 5, 3);
        due.is("one moved", x.program(4, 3), 1);
        due.is("one is not pinned", x.program(4, 1), 7);
        x.write(4, 0, 1);
        x.hardError(x.page(4, 0, 0));
        due.is("the same page is lost again", x.program(4, 2), 3);
        x.start();
        due.is("none has a cell", x.program(4, 0) + x.program(4, 1), 0);
        due.is("lost so far", x.program(4, 2), 3);
        due.is("moves so far", x.program(4, 3), 1);
        for (int program = 0; program < 4; program++) {
            due.is("none of the others", x.program(program, 2) + x.program(program, 3), 0);
        }
    }

    /** "both NONE if it is not used", "NONE if it is not on it" */
    private static void toldOfCells() {
        RetiredCells x = new RetiredCells();
        cell("free", x, 1, new int[] {0, 0, NONE, NONE, 0, NONE});
        x.write(4, 9, 1);
        x.pin(4, 9, true);
        Runs.errors(x, 0, 2);
        cell("used", x, 0, new int[] {1, 2, 4, 9, 0, NONE});
        x.error(0);
        cell("waiting", x, 0, new int[] {1, 3, 4, 9, 1, NONE});
        x.pin(4, 9, false);
        cell("retired", x, 0, new int[] {2, 3, NONE, NONE, 0, 0});
        cell("of the moved page", x, 1, new int[] {1, 0, 4, 9, 0, NONE});
        Runs.hardErrors(x, 20, 32);
        cell("last on the list", x, 30, new int[] {2, 0, NONE, NONE, 0, 11});
        cell("retired, on no list", x, 31, new int[] {2, 0, NONE, NONE, 0, NONE});
        x.start();
        cell("on the list behind a start", x, 0, new int[] {2, 0, NONE, NONE, 0, 0});
        cell("on no list behind a start", x, 31, new int[] {0, 0, NONE, NONE, 0, NONE});
    }

    private static void cell(String name, RetiredCells x, int cell, int[] want) {
        for (int what = 0; what < want.length; what++) {
            due.is("cell " + name + ", what " + what, x.cell(cell, what), want[what]);
        }
    }

    /** "BAD_VALUE if rank is negative; NONE if there are not so many" */
    private static void toldOfTheList() {
        RetiredCells x = new RetiredCells();
        for (int entries = 0; entries <= 14; entries++) {
            for (int rank = 0; rank < 16; rank++) {
                due.is("rank " + rank + " of " + entries, x.list(rank),
                    rank < Math.min(12, entries) ? 39 - rank : NONE);
            }
            due.is("negative", x.list(-1), BAD_VALUE);
            x.hardError(39 - entries);
        }
        due.is("greatest", x.list(Integer.MAX_VALUE), NONE);
        due.is("least", x.list(Integer.MIN_VALUE), BAD_VALUE);
    }

    private static void toldAhead() {
        nextOne();
        reasons();
        errorsThatAreLeft();
        worstOne();
        whatAStartWouldFree();
    }

    /** "NONE if none is free" */
    private static void nextOne() {
        RetiredCells x = Runs.fullMemory();
        for (int setting = 0; setting <= 2; setting++) {
            x.set(2, setting);
            due.is("none is free by " + setting, x.next(), NONE);
        }
        x.giveBack(1, 7);
        for (int setting = 0; setting <= 2; setting++) {
            x.set(2, setting);
            due.is("the only one by " + setting, x.next(), 17);
            due.is("it is given by " + setting, x.write(1, 7, 0), 17);
            x.undo();
        }
        Runs.errors(x, 17, 3);
        due.is("it is retired", x.next(), NONE);
    }

    /** "Returns 0 if it is; the first that holds: 1 .., 2 .., 3 .." */
    private static void reasons() {
        RetiredCells x = Runs.fullMemory();
        x.pin(0, 0, true);
        due.is("1 ahead of 2 and 3", x.reason(0), 1);
        due.is("1 ahead of 3", x.reason(1), 1);
        Runs.errors(x, 0, 3);
        Runs.errors(x, 1, 3);
        due.is("2 ahead of 3", x.reason(0), 2);
        due.is("3", x.reason(1), 3);
        x.pin(0, 0, false);
        due.is("3 when it is pinned no more", x.reason(0), 3);
        x.giveBack(3, 9);
        due.is("0 when it is moved", x.reason(0), 0);
        due.is("3 still", x.reason(1), 3);
        x.set(0, 4);
        due.is("1 by the setting", x.reason(1), 1);
        due.is("0 stays 0", x.reason(0), 0);
        RetiredCells last = new RetiredCells();
        last.write(4, 8, 0);
        last.write(4, 9, 0);
        last.pin(4, 9, true);
        Runs.errors(last, 1, 3);
        due.is("2 of the last page", last.reason(1), 2);
        RetiredCells free = new RetiredCells();
        due.is("a free one", free.reason(39), 1);
        free.write(0, 0, 0);
        free.pin(0, 0, true);
        Runs.errors(free, 0, 3);
        due.is("2 though there is room", free.reason(0), 2);
    }

    /** "NONE if it would not be within 20" */
    private static void errorsThatAreLeft() {
        for (int setting = 1; setting <= 20; setting++) {
            RetiredCells x = new RetiredCells();
            x.set(0, setting);
            x.write(0, 0, 0);
            for (int errors = 0; errors < setting; errors++) {
                due.is("free, " + errors + " of " + setting, x.errorsLeft(39), setting - errors);
                due.is("used, " + errors + " of " + setting, x.errorsLeft(0), setting - errors);
                x.error(39);
                x.error(0);
            }
            due.is("retired, free", x.errorsLeft(39), NOT_POSSIBLE);
            due.is("retired, used", x.errorsLeft(0), NOT_POSSIBLE);
        }
        RetiredCells x = Runs.fullMemory();
        due.is("no other cell", x.errorsLeft(0), NONE);
        x.giveBack(3, 9);
        due.is("one other cell", x.errorsLeft(0), 3);
        due.is("a free one needs none", x.errorsLeft(39), 3);
        x.pin(0, 0, true);
        due.is("pinned", x.errorsLeft(0), NONE);
        Runs.errors(x, 0, 3);
        due.is("pinned, it waits", x.errorsLeft(0), NONE);
        Runs.errors(x, 39, 2);
        due.is("the other cell is not bad yet", x.errorsLeft(1), 3);
        x.error(39);
        due.is("it is retired", x.errorsLeft(1), NONE);
    }

    /** "of those that are not retired, of several the lowest"; "NONE if none has an error" */
    private static void worstOne() {
        RetiredCells x = Runs.fullMemory();
        due.is("none has an error", x.worst(), NONE);
        x.error(39);
        due.is("the last cell", x.worst(), 39);
        x.error(20);
        due.is("the lower one", x.worst(), 20);
        x.error(0);
        due.is("the first cell", x.worst(), 0);
        Runs.errors(x, 39, 3);
        due.is("a waiting one", x.worst(), 39);
        x.error(20);
        due.is("it has more", x.worst(), 39);
        x.giveBack(0, 5);
        due.is("it is retired", x.cell(39, 0), 2);
        due.is("not a retired one", x.worst(), 20);
        x.hardError(20);
        due.is("not one by a hard error", x.worst(), 0);
        x.pass(10);
        due.is("all are forgotten", x.worst(), NONE);
    }

    /** "Tells how many cells would be free behind a start." */
    private static void whatAStartWouldFree() {
        for (int retired = 0; retired <= 40; retired++) {
            RetiredCells x = Runs.fullMemory();
            Runs.hardErrors(x, 0, retired - 1);
            due.is("retired " + retired, x.ifStarted(), 40 - Math.min(12, retired));
            due.is("no start, retired " + retired, x.count(3), retired);
            due.is("as a start has it, retired " + retired, x.start(), 40 - Math.min(12, retired));
        }
        RetiredCells x = Runs.fullMemory();
        Runs.errors(x, 0, 3);
        due.is("a waiting one would be free", x.ifStarted(), 40);
    }

    // ---- counts

    private static void counts() {
        RetiredCells x = new RetiredCells();
        expect(x, 0, 0, 1, 40, 2, 0, 3, 0, 4, 0, 5, 0, 6, 0, 7, 0, 8, 0, 9, 0, 10, 0, 11, 0, 12, 0, 13, 3, 14, 10,
            15, 0, 16, 0, 17, 0);
        x.write(0, 0, 1);
        expect(x, 1, 39, 2, 1, 6, 1, 16, 1);
        x.pin(0, 0, true);
        expect(x, 7, 1, 16, 2);
        Runs.errors(x, 0, 3);
        expect(x, 4, 1, 8, 3, 3, 0, 16, 4);
        x.pin(0, 0, false);
        expect(x, 4, 0, 3, 1, 5, 1, 7, 0, 10, 1, 2, 1, 1, 38);
        x.hardError(1);
        expect(x, 9, 1, 11, 1, 3, 2, 5, 2, 2, 0, 6, 0, 8, 3, 1, 38);
        x.error(0);
        x.hardError(1);
        expect(x, 8, 3, 9, 1);
        x.pass(3);
        expect(x, 0, 3);
        x.start();
        expect(x, 0, 3, 12, 1, 1, 38, 8, 3, 9, 1, 10, 1, 11, 1);
        x.set(0, 20);
        x.set(1, 99);
        x.set(2, 2);
        expect(x, 13, 20, 14, 99, 15, 2);
        x.type('s');
        expect(x, 17, 1, 16, 4);
        x.undo();
        expect(x, 15, 0, 16, 3, 17, 1);
    }

    /** Pairs of a what and what count() tells of it. */
    private static void expect(RetiredCells x, int... pairs) {
        for (int i = 0; i < pairs.length; i += 2) {
            due.is("count(" + pairs[i] + ")", x.count(pairs[i]), pairs[i + 1]);
        }
    }

    private static void tellingChangesNothing() {
        for (int full = 0; full < 2; full++) {
            RetiredCells x = full == 1 ? full() : busy();
            int[] was = Runs.told(x);
            for (int i = 0; i < 5; i++) {
                due.same("told again", Runs.told(x), was);
            }
        }
    }

    /** "An object is used for at most 512 calls": of each kind, the dearest ones too. */
    private static void usedForFiveHundredCalls() {
        RetiredCells x = new RetiredCells();
        x.write(0, 0, 0);
        for (int calls = 1; calls < 511; calls++) {
            due.is("written", x.write(0, 0, calls), 0);
        }
        due.is("the 512th call", x.page(0, 0, 1), 510);
        RetiredCells y = new RetiredCells();
        for (int calls = 0; calls < 128; calls++) {
            y.type('s');
            y.perform();
            y.clearText();
            y.hardError(calls % 40);
        }
        due.is("starts", y.count(12), 128);
        due.is("the list", y.count(5), 12);
    }
}
