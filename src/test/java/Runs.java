/** Runs of calls that several tests begin with, and all that an object tells. */
final class Runs {
    private static final int[] WHATS_OF_PAGE = {0, 1, 2, 3};
    private static final int MOST_TOLD = 576;
    /** Where told() has the number of states in the history. */
    static final int AT_HISTORY = 200 + 20 + 320 + 16;

    private Runs() {
    }

    /** Fills all cells: programs 0 to 3, each page with the cell program * 10 + page, the value 100 more. */
    static RetiredCells fullMemory() {
        RetiredCells x = new RetiredCells();
        for (int page = 0; page < 40; page++) {
            x.write(page / 10, page % 10, 100 + page);
        }
        return x;
    }

    static void errors(RetiredCells x, int cell, int times) {
        for (int i = 0; i < times; i++) {
            x.error(cell);
        }
    }

    static void hardErrors(RetiredCells x, int firstCell, int lastCell) {
        for (int cell = firstCell; cell <= lastCell; cell++) {
            x.hardError(cell);
        }
    }

    /** Lets days pass until the day is reached. */
    static void untilDay(RetiredCells x, int day) {
        while (x.count(0) < day) {
            x.pass(Math.min(99, day - x.count(0)));
        }
    }

    /** All that is told, but for wrong arguments. */
    static int[] told(RetiredCells x) {
        int[] all = new int[MOST_TOLD];
        int at = 0;
        for (int page = 0; page < 50; page++) {
            for (int what : WHATS_OF_PAGE) {
                all[at++] = x.page(page / 10, page % 10, what);
            }
        }
        for (int program = 0; program < 5; program++) {
            for (int what = 0; what < 4; what++) {
                all[at++] = x.program(program, what);
            }
        }
        for (int cell = 0; cell < 40; cell++) {
            for (int what = 0; what < 6; what++) {
                all[at++] = x.cell(cell, what);
            }
            all[at++] = x.reason(cell);
            all[at++] = x.errorsLeft(cell);
        }
        for (int what = 0; what < 18; what++) {
            all[at++] = x.count(what);
        }
        for (int rank = 0; rank < 13; rank++) {
            all[at++] = x.list(rank);
        }
        all[at++] = x.next();
        all[at++] = x.worst();
        all[at++] = x.ifStarted();
        all[at++] = x.stopped(0);
        all[at] = x.stopped(1);
        return all;
    }
}
