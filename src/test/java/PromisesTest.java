/** Each promise by itself: ordinary inputs, the edges that the document names, wrong inputs. */
public final class PromisesTest {
    private static final int UNKNOWN = -1;
    private static final int BAD_VALUE = -2;
    private static final int FULL = -3;
    private static final int NOT_POSSIBLE = -4;
    private static final int NONE = -5;

    private static final Due due = new Due();

    public static void main(String[] args) {
        promise1NewObject();
        promise2Write();
        promise2GivenBySetting();
        promise3GiveBack();
        promise4Pin();
        promise5Error();
        promise5MoveBySetting();
        promise6HardError();
        promise7Start();
        promise7FullList();
        promise8Pass();
        promise9Set();
        promise9SetRetires();
        promise10Type();
        promise11ClearText();
        promise12Faults();
        promise12Things();
        promise12Act();
        promise13Stopped();
        promise14Undo();
        promise14EachAct();
        promise14WhatRecords();
        promise15Keep();
        promise16Restore();
        promise17Page();
        promise18Program();
        promise19Cell();
        promise20List();
        promise21Next();
        promise22Reason();
        promise23ErrorsLeft();
        promise24Worst();
        promise25IfStarted();
        promise26Count();
        due.end();
    }

    private static void promise1NewObject() {
        RetiredCells x = new RetiredCells();
        int[] counts = {0, 40, 0, 0, 0, 0, 0, 0, 0, 0, 0, 0, 0, 3, 10, 0, 0, 0};
        for (int what = 0; what < counts.length; what++) {
            due.is("1 count(" + what + ")", x.count(what), counts[what]);
        }
        for (int cell = 0; cell < 40; cell++) {
            due.is("1 cell(c, 0)", x.cell(cell, 0), 0);
            due.is("1 cell(c, 1)", x.cell(cell, 1), 0);
            due.is("1 cell(c, 2)", x.cell(cell, 2), NONE);
        }
        for (int page = 0; page < 50; page++) {
            due.is("1 page(.., 0)", x.page(page / 10, page % 10, 0), NONE);
            due.is("1 page(.., 2)", x.page(page / 10, page % 10, 2), 0);
            due.is("1 page(.., 3)", x.page(page / 10, page % 10, 3), 0);
        }
        due.is("1 undo", x.undo(), NONE);
        due.is("1 restore", x.restore(), NONE);
        due.is("1 stopped(0)", x.stopped(0), NONE);
        due.is("1 next", x.next(), 0);
    }

    private static void promise2Write() {
        RetiredCells x = new RetiredCells();
        due.is("2 write", x.write(4, 9, 9999), 0);
        due.is("2 value", x.page(4, 9, 1), 9999);
        due.is("2 again, in its cell", x.write(4, 9, 0), 0);
        due.is("2 value again", x.page(4, 9, 1), 0);
        due.is("2 used", x.count(2), 1);
        due.is("2 another", x.write(0, 0, 1), 1);
        due.is("2 program -1", x.write(-1, 0, 0), UNKNOWN);
        due.is("2 program 5", x.write(5, 0, 0), UNKNOWN);
        due.is("2 page -1", x.write(1, -1, 0), UNKNOWN);
        due.is("2 page 10", x.write(1, 10, 0), UNKNOWN);
        due.is("2 value -1", x.write(0, 0, -1), BAD_VALUE);
        due.is("2 value 10000", x.write(0, 0, 10000), BAD_VALUE);
        due.is("2 both", x.write(5, 0, -1), UNKNOWN);
        due.is("2 history", x.count(16), 3);
        RetiredCells full = Runs.fullMemory();
        due.is("2 full", full.write(4, 0, 5), FULL);
        due.is("2 full, bad value", full.write(4, 0, 10000), BAD_VALUE);
        due.is("2 full, a page with a cell", full.write(3, 9, 5), 39);
        due.is("2 full, nothing changed", full.page(4, 0, 0), NONE);
        full.giveBack(2, 2);
        due.is("2 room again", full.write(4, 0, 5), 22);
    }

    private static void promise2GivenBySetting() {
        RetiredCells x = new RetiredCells();
        x.set(2, 2);
        due.is("2 by 2, first", x.write(0, 0, 0), 0);
        x.giveBack(0, 0);
        due.is("2 by 2, behind the last", x.write(0, 0, 0), 1);
        x.start();
        due.is("2 by 2, a start changes nothing", x.write(0, 0, 0), 2);
        x.undo();
        due.is("2 by 2, undo brings it back", x.next(), 2);
        x.set(2, 0);
        x.write(0, 1, 0);
        x.set(2, 2);
        due.is("2 by 2, given by another setting", x.next(), 1);
        for (int page = 2; page < 41; page++) {
            x.write(page / 10, page % 10, 0);
        }
        due.is("2 by 2, full", x.next(), NONE);
        x.giveBack(4, 0);
        due.is("2 by 2, only the one given last", x.next(), 39);
        x.giveBack(0, 5);
        due.is("2 by 2, another one comes ahead of it", x.next(), 4);

        RetiredCells fewest = new RetiredCells();
        fewest.set(2, 1);
        fewest.error(0);
        fewest.error(2);
        fewest.error(2);
        due.is("2 by 1, lowest of the fewest", fewest.write(0, 0, 0), 1);
        due.is("2 by 1, next", fewest.write(0, 1, 0), 3);
        for (int page = 2; page < 38; page++) {
            fewest.write(page / 10, page % 10, 0);
        }
        due.is("2 by 1, one error", fewest.write(4, 0, 0), 0);
        due.is("2 by 1, two errors", fewest.write(4, 1, 0), 2);
        due.is("2 by 1, full", fewest.write(4, 2, 0), FULL);

        RetiredCells around = new RetiredCells();
        around.set(2, 2);
        for (int page = 0; page < 40; page++) {
            around.write(page / 10, page % 10, 0);
        }
        around.giveBack(0, 3);
        around.giveBack(3, 8);
        due.is("2 by 2, behind 39 comes 0", around.write(4, 0, 0), 3);
        due.is("2 by 2, on", around.write(4, 1, 0), 38);
    }

    private static void promise3GiveBack() {
        RetiredCells x = new RetiredCells();
        x.write(1, 2, 77);
        x.pin(1, 2, true);
        due.is("3 value", x.giveBack(1, 2), 77);
        due.is("3 no cell", x.page(1, 2, 0), NONE);
        due.is("3 no pin", x.page(1, 2, 2), 0);
        due.is("3 free", x.cell(0, 0), 0);
        due.is("3 twice", x.giveBack(1, 2), NONE);
        due.is("3 history", x.count(16), 3);
        due.is("3 not lost", x.count(11), 0);
        due.is("3 program 5", x.giveBack(5, 0), UNKNOWN);
        due.is("3 program -1", x.giveBack(-1, 0), UNKNOWN);
        due.is("3 page 10", x.giveBack(0, 10), UNKNOWN);
        due.is("3 page -1", x.giveBack(0, -1), UNKNOWN);
        x.write(1, 2, 5);
        due.is("3 not pinned when it is given one again", x.page(1, 2, 2), 0);

        RetiredCells bad = new RetiredCells();
        bad.write(0, 0, 9);
        bad.pin(0, 0, true);
        Runs.errors(bad, 0, 3);
        due.is("3 a bad one waits", bad.cell(0, 4), 1);
        due.is("3 a bad one given back", bad.giveBack(0, 0), 9);
        due.is("3 is retired at once", bad.cell(0, 0), 2);

        RetiredCells full = Runs.fullMemory();
        Runs.errors(full, 7, 3);
        Runs.errors(full, 5, 3);
        due.is("3 two wait", full.count(4), 2);
        due.is("3 room for one", full.giveBack(3, 9), 139);
        due.is("3 the lower one is moved", full.page(0, 5, 0), 39);
        due.is("3 the other waits on", full.page(0, 7, 0), 7);
        due.is("3 one waits", full.count(4), 1);
        due.is("3 its value goes with it", full.page(0, 5, 1), 105);
        due.is("3 giving the bad one back brings no room", full.giveBack(0, 7), 107);
        due.is("3 it is retired", full.cell(7, 0), 2);
    }

    private static void promise4Pin() {
        RetiredCells x = new RetiredCells();
        x.write(0, 0, 1);
        x.write(1, 0, 2);
        due.is("4 no cell", x.pin(2, 0, true), NOT_POSSIBLE);
        due.is("4 no cell, false", x.pin(2, 0, false), NOT_POSSIBLE);
        due.is("4 not pinned", x.pin(0, 0, false), NONE);
        due.is("4 pin", x.pin(0, 0, true), 1);
        due.is("4 twice", x.pin(0, 0, true), NONE);
        due.is("4 pages of all programs", x.pin(1, 0, true), 2);
        due.is("4 unpin", x.pin(0, 0, false), 1);
        due.is("4 history", x.count(16), 4);
        due.is("4 program 5", x.pin(5, 0, true), UNKNOWN);
        due.is("4 program -1", x.pin(-1, 0, true), UNKNOWN);
        due.is("4 page 10", x.pin(0, 10, true), UNKNOWN);
        due.is("4 page -1", x.pin(0, -1, true), UNKNOWN);
        Runs.errors(x, 1, 3);
        due.is("4 pinned, it waits", x.page(1, 0, 0), 1);
        due.is("4 unpinned", x.pin(1, 0, false), 0);
        due.is("4 it is moved", x.page(1, 0, 0), 2);
        due.is("4 its cell is retired", x.cell(1, 0), 2);
    }

    private static void promise5Error() {
        RetiredCells x = new RetiredCells();
        due.is("5 first", x.error(39), 0);
        due.is("5 count", x.cell(39, 1), 1);
        due.is("5 second", x.error(39), 0);
        due.is("5 a free one at once", x.error(39), 1);
        due.is("5 retired", x.cell(39, 0), 2);
        due.is("5 retired already", x.error(39), NOT_POSSIBLE);
        due.is("5 count stays", x.cell(39, 1), 3);
        due.is("5 errors so far", x.count(8), 3);
        due.is("5 cell -1", x.error(-1), UNKNOWN);
        due.is("5 cell 40", x.error(40), UNKNOWN);
        due.is("5 history", x.count(16), 3);
        RetiredCells full = Runs.fullMemory();
        Runs.errors(full, 3, 2);
        due.is("5 no other free cell", full.error(3), 0);
        due.is("5 it waits", full.cell(3, 4), 1);
        due.is("5 one error more", full.error(3), 0);
        due.is("5 its count", full.cell(3, 1), 4);
        RetiredCells used = new RetiredCells();
        used.write(2, 3, 42);
        Runs.errors(used, 0, 2);
        due.is("5 a used one is moved", used.error(0), 1);
        due.is("5 cell", used.page(2, 3, 0), 1);
        due.is("5 value", used.page(2, 3, 1), 42);
        due.is("5 moves of the page", used.page(2, 3, 3), 1);
        due.is("5 moves of the program", used.program(2, 3), 1);
        due.is("5 moves", used.count(10), 1);
        due.is("5 used by nobody", used.cell(0, 2), NONE);
        due.is("5 used by the page", used.cell(1, 2) * 10 + used.cell(1, 3), 23);
    }

    private static void promise5MoveBySetting() {
        RetiredCells x = new RetiredCells();
        x.set(2, 1);
        x.write(0, 0, 1);
        x.error(1);
        Runs.errors(x, 0, 3);
        due.is("5 moved by 1", x.page(0, 0, 0), 2);
        RetiredCells y = new RetiredCells();
        y.write(0, 0, 1);
        y.write(0, 1, 1);
        y.giveBack(0, 0);
        y.set(2, 2);
        Runs.errors(y, 1, 3);
        due.is("5 moved by 2", y.page(0, 1, 0), 2);
        due.is("5 a move gives", y.next(), 3);
        RetiredCells z = new RetiredCells();
        z.write(0, 0, 1);
        z.write(0, 1, 1);
        z.giveBack(0, 0);
        Runs.errors(z, 1, 3);
        due.is("5 moved by 0", z.page(0, 1, 0), 0);
        z.set(2, 2);
        due.is("5 a move by 0 gives too", z.next(), 2);
    }

    private static void promise6HardError() {
        RetiredCells x = new RetiredCells();
        x.write(3, 4, 55);
        x.pin(3, 4, true);
        due.is("6 lost", x.hardError(0), 55);
        due.is("6 retired", x.cell(0, 0), 2);
        due.is("6 no cell", x.page(3, 4, 0), NONE);
        due.is("6 no value", x.page(3, 4, 1), NONE);
        due.is("6 no pin", x.page(3, 4, 2), 0);
        due.is("6 lost by the program", x.program(3, 2), 1);
        due.is("6 lost so far", x.count(11), 1);
        due.is("6 hard errors so far", x.count(9), 1);
        due.is("6 no errors", x.count(8), 0);
        due.is("6 its count", x.cell(0, 1), 0);
        due.is("6 on the list", x.cell(0, 5), 0);
        due.is("6 used by nobody", x.cell(0, 2), NONE);
        due.is("6 retired already", x.hardError(0), NOT_POSSIBLE);
        due.is("6 a free one", x.hardError(39), 10000);
        due.is("6 nothing lost", x.count(11), 1);
        due.is("6 list", x.list(1), 39);
        due.is("6 cell -1", x.hardError(-1), UNKNOWN);
        due.is("6 cell 40", x.hardError(40), UNKNOWN);
        x.write(0, 0, 0);
        due.is("6 a zero is lost", x.hardError(1), 0);
        due.is("6 history", x.count(16), 4);
    }

    private static void promise7Start() {
        RetiredCells x = new RetiredCells();
        x.write(0, 0, 5);
        x.pin(0, 0, true);
        x.write(0, 1, 6);
        Runs.errors(x, 9, 2);
        x.hardError(20);
        x.pass(7);
        due.is("7 free", x.start(), 39);
        due.is("7 no cell", x.page(0, 0, 0), NONE);
        due.is("7 no value", x.page(0, 1, 1), NONE);
        due.is("7 no pin", x.count(7), 0);
        due.is("7 none lost", x.count(11), 0);
        due.is("7 no errors", x.cell(9, 1), 0);
        due.is("7 errors so far stay", x.count(8), 2);
        due.is("7 the day goes on", x.count(0), 7);
        due.is("7 on the list", x.cell(20, 0), 2);
        due.is("7 starts", x.count(12), 1);
        due.is("7 used", x.count(2), 0);
        Runs.errors(x, 3, 3);
        due.is("7 its count", x.cell(3, 1), 3);
        due.is("7 again", x.start(), 38);
        due.is("7 a retired one has none either", x.cell(3, 1), 0);
        due.is("7 the list keeps its order", x.list(0) * 100 + x.list(1), 2003);
        due.is("7 starts", x.count(12), 2);
        due.is("7 not pinned when it is given one", x.write(0, 0, 1) * 10 + x.page(0, 0, 2), 0);
    }

    private static void promise7FullList() {
        RetiredCells x = new RetiredCells();
        for (int cell = 0; cell < 14; cell++) {
            x.hardError(cell * 2);
        }
        due.is("7 retired", x.count(3), 14);
        due.is("7 entries", x.count(5), 12);
        due.is("7 free", x.start(), 28);
        due.is("7 on no list", x.cell(24, 0), 0);
        due.is("7 the other one", x.cell(26, 0), 0);
        due.is("7 on the list", x.cell(22, 0), 2);
        due.is("7 retired", x.count(3), 12);
        due.is("7 it can be retired anew", x.hardError(24), 10000);
        due.is("7 the list is full", x.cell(24, 5), NONE);
        due.is("7 it comes back anew", x.start(), 28);
    }

    private static void promise8Pass() {
        RetiredCells x = new RetiredCells();
        x.error(0);
        Runs.errors(x, 1, 2);
        due.is("8 nine days", x.pass(9), 0);
        due.is("8 not yet", x.cell(1, 1), 2);
        due.is("8 the tenth", x.pass(1), 0);
        due.is("8 one less", x.cell(1, 1), 1);
        due.is("8 none left", x.cell(0, 1), 0);
        x.pass(10);
        due.is("8 not below 0", x.cell(0, 1), 0);
        due.is("8 days 0", x.pass(0), BAD_VALUE);
        due.is("8 days 100", x.pass(100), BAD_VALUE);
        due.is("8 days -1", x.pass(-1), BAD_VALUE);
        due.is("8 day", x.count(0), 20);
        x.set(1, 7);
        Runs.errors(x, 5, 2);
        x.pass(1);
        due.is("8 day 21 by 7", x.cell(5, 1), 1);
        Runs.errors(x, 6, 3);
        x.pass(99);
        due.is("8 a retired one keeps its count", x.cell(6, 1), 3);
        RetiredCells far = new RetiredCells();
        for (int i = 0; i < 101; i++) {
            far.pass(99);
        }
        due.is("8 beyond", far.pass(1), FULL);
        due.is("8 beyond, bad value", far.pass(100), BAD_VALUE);
        due.is("8 day 9999", far.count(0), 9999);
        far.undo();
        due.is("8 beyond by one", far.pass(99), 0);
        RetiredCells waiting = Runs.fullMemory();
        Runs.errors(waiting, 2, 3);
        Runs.errors(waiting, 4, 4);
        due.is("8 two wait", waiting.pass(9), 2);
        due.is("8 one less bad", waiting.pass(1), 1);
        due.is("8 no more", waiting.pass(10), 0);
        due.is("8 not bad", waiting.cell(4, 4), 0);
    }

    private static void promise9Set() {
        RetiredCells x = new RetiredCells();
        due.is("9 which -1", x.set(-1, 1), UNKNOWN);
        due.is("9 which 3", x.set(3, 1), UNKNOWN);
        due.is("9 0 as 0", x.set(0, 0), BAD_VALUE);
        due.is("9 0 as 21", x.set(0, 21), BAD_VALUE);
        due.is("9 1 as 0", x.set(1, 0), BAD_VALUE);
        due.is("9 1 as 100", x.set(1, 100), BAD_VALUE);
        due.is("9 2 as -1", x.set(2, -1), BAD_VALUE);
        due.is("9 2 as 3", x.set(2, 3), BAD_VALUE);
        due.is("9 0 so already", x.set(0, 3), NONE);
        due.is("9 1 so already", x.set(1, 10), NONE);
        due.is("9 2 so already", x.set(2, 0), NONE);
        due.is("9 history", x.count(16), 0);
        due.is("9 0 as 20", x.set(0, 20), 3);
        due.is("9 0 as 1", x.set(0, 1), 20);
        due.is("9 1 as 99", x.set(1, 99), 10);
        due.is("9 1 as 1", x.set(1, 1), 99);
        due.is("9 2 as 2", x.set(2, 2), 0);
        due.is("9 2 as 1", x.set(2, 1), 2);
        due.is("9 told", x.count(13) * 100 + x.count(14) * 10 + x.count(15), 111);
    }

    private static void promise9SetRetires() {
        RetiredCells x = new RetiredCells();
        x.write(0, 0, 1);
        x.write(0, 1, 2);
        x.write(0, 2, 3);
        x.giveBack(0, 0);
        Runs.errors(x, 0, 2);
        Runs.errors(x, 1, 2);
        Runs.errors(x, 3, 2);
        due.is("9 bad by 2", x.set(0, 2), 3);
        due.is("9 a free one", x.cell(0, 0), 2);
        due.is("9 a used one goes by the bad one", x.page(0, 1, 0), 4);
        due.is("9 a free one behind", x.cell(3, 0), 2);
        due.is("9 by their numbers", x.list(0) * 100 + x.list(1) * 10 + x.list(2), 13);
        RetiredCells y = Runs.fullMemory();
        y.giveBack(3, 9);
        Runs.errors(y, 39, 2);
        Runs.errors(y, 4, 2);
        due.is("9 the only free one is bad", y.set(0, 2), 3);
        due.is("9 no room", y.reason(4), 3);
        due.is("9 it is retired", y.reason(39), 0);
        y.set(0, 3);
        due.is("9 bad no more", y.reason(4), 1);
        due.is("9 retired for good", y.reason(39), 0);
    }

    private static void promise10Type() {
        RetiredCells x = new RetiredCells();
        for (int i = 1; i <= 60; i++) {
            due.is("10 length", x.type((char) (i * 1000)), i);
        }
        due.is("10 full", x.type('s'), FULL);
        due.is("10 length stays", x.count(17), 60);
        due.is("10 no act", x.count(16), 0);
        due.is("10 not allowed", x.perform(), -100);
    }

    private static void promise11ClearText() {
        RetiredCells x = new RetiredCells();
        due.is("11 empty", x.clearText(), 0);
        Due.text(x, "s;s");
        due.is("11 length", x.clearText(), 3);
        due.is("11 empty then", x.count(17), 0);
        due.is("11 typed anew", x.type('s'), 1);
        due.is("11 performed", x.perform(), 1);
        x.undo();
        due.is("11 undo leaves the text", x.count(17), 1);
    }

    private static void promise12Faults() {
        String[] texts = {"", "x", "w", "w5", "w0", "w0x", "w00", "w00:", "w00=", "w00=x", "w00=00", "w00=10000",
            "w00=123x", "f", "f5", "f4", "f4;", "p", "p9", "p0=", "e", "ex", "e40", "e05", "e39;", "e390", "h",
            "h40", "h00", "h", "s5", "s;", "s;;", ";", ".", ".0", ".100", ".99;", "s s", "S", "e1,", "w40=9999;s0", "e49", "h99", ".199"};
        int[] faults = {0, 0, 1, 1, 2, 2, 3, 3, 4, 4, 5, 8,
            7, 1, 1, 2, 2, 1, 1, 2, 1, 1, 2, 2, 4, 3, 1,
            2, 2, 1, 1, 2, 2, 0, 1, 1, 3, 4, 1, 0, 2, 10, 2, 2, 3};
        RetiredCells x = new RetiredCells();
        for (int i = 0; i < texts.length; i++) {
            x = new RetiredCells();
            due.is("12 fault of '" + texts[i] + "'", Due.perform(x, texts[i]), -100 - faults[i]);
            due.is("12 no history", x.count(16), 0);
            due.is("12 no stop", x.stopped(0), NONE);
        }
        String thirty = "s;s;s;s;s;s;s;s;s;s;s;s;s;s;s;s;s;s;s;s;s;s;s;s;s;s;s;s;s;s";
        due.is("12 thirty things", Due.perform(x, thirty), 30);
        due.is("12 thirty starts", x.count(12), 30);
        due.is("12 thirty and ;", Due.perform(x, thirty + ";"), -160);
        due.is("12 nothing done", x.count(12), 30);
        due.is("12 a text of 60", Due.perform(x, thirty.substring(0, 58) + ".9"), 30);
        due.is("12 the last of 60", x.count(0), 9);
    }

    private static void promise12Things() {
        RetiredCells x = new RetiredCells();
        due.is("12 w", Due.perform(x, "w49=9999;w00=0;w01=10"), 3);
        due.is("12 cells", x.page(4, 9, 0) * 100 + x.page(0, 0, 0) * 10 + x.page(0, 1, 0), 12);
        due.is("12 values", x.page(4, 9, 1) + x.page(0, 0, 1) + x.page(0, 1, 1), 10009);
        due.is("12 p", Due.perform(x, "p49;p00;p00;p01"), 4);
        due.is("12 pins", x.page(4, 9, 2) * 100 + x.page(0, 0, 2) * 10 + x.page(0, 1, 2), 101);
        due.is("12 f", Due.perform(x, "f49"), 1);
        due.is("12 f of none", Due.perform(x, "f49;f48"), 2);
        due.is("12 given back", x.page(4, 9, 0), NONE);
        due.is("12 e", Due.perform(x, "e39;e10;e10;e0"), 4);
        due.is("12 counts", x.cell(39, 1) * 100 + x.cell(10, 1) * 10 + x.cell(0, 1), 121);
        due.is("12 h", Due.perform(x, "h39;h2"), 2);
        due.is("12 lost", x.program(0, 2), 1);
        due.is("12 days", Due.perform(x, ".9;.90"), 2);
        due.is("12 day", x.count(0), 99);
        due.is("12 s", Due.perform(x, "s"), 1);
        due.is("12 free", x.count(1), 38);
        due.is("12 looked behind each thing", Due.perform(x, "w00=7;p00;e0;e0;e0;p00;p00"), 7);
        due.is("12 moved ahead of the pin", x.page(0, 0, 0), 1);
        due.is("12 pinned then", x.page(0, 0, 2), 1);
        due.is("12 the text stays", x.count(17), 26);
    }

    private static void promise12Act() {
        RetiredCells x = new RetiredCells();
        x.write(0, 0, 1);
        due.is("12 one act", Due.perform(x, "w01=2;w02=3;.5"), 3);
        due.is("12 one state", x.count(16), 2);
        due.is("12 undo", x.undo(), 1);
        due.is("12 all back", x.count(2) * 10 + x.count(0), 10);
        due.is("12 performed anew", x.perform(), 3);
        due.is("12 stopped", Due.perform(x, "w03=4;.9;h20;h20;w04=5"), NOT_POSSIBLE);
        due.is("12 nothing of it", x.count(2) * 100 + x.count(0) * 10 + x.count(3), 350);
        due.is("12 no state more", x.count(16), 2);
        due.is("12 NONE alone is an act", Due.perform(x, "f44"), 1);
        due.is("12 recorded", x.count(16), 3);
    }

    private static void promise13Stopped() {
        RetiredCells x = new RetiredCells();
        due.is("13 not yet, 1", x.stopped(1), NONE);
        due.is("13 what -1", x.stopped(-1), BAD_VALUE);
        due.is("13 what 2", x.stopped(2), BAD_VALUE);
        due.is("13 p", Due.perform(x, "p00"), NOT_POSSIBLE);
        due.is("13 number", x.stopped(0), 0);
        due.is("13 error", x.stopped(1), NOT_POSSIBLE);
        due.is("13 e", Due.perform(x, "h3;f00;e3"), NOT_POSSIBLE);
        due.is("13 number of e", x.stopped(0), 2);
        due.is("13 performed", Due.perform(x, "s"), 1);
        due.is("13 it stays", x.stopped(0), 2);
        due.is("13 fault", Due.perform(x, "q"), -100);
        due.is("13 it stays", x.stopped(0), 2);
        x.undo();
        due.is("13 it stays behind undo", x.stopped(1), NOT_POSSIBLE);
        for (int i = 0; i < 100; i++) {
            x.pass(99);
        }
        due.is("13 days", Due.perform(x, ".99;.1"), NOT_POSSIBLE);
        due.is("13 number of days", x.stopped(0), 1);
        due.is("13 beyond", x.stopped(1), FULL);
        due.is("13 day", x.count(0), 9900);
        RetiredCells full = Runs.fullMemory();
        due.is("13 w", Due.perform(full, "w00=1;w40=1"), NOT_POSSIBLE);
        due.is("13 number of w", full.stopped(0), 1);
        due.is("13 no cell free", full.stopped(1), FULL);
        due.is("13 nothing written", full.page(0, 0, 1), 100);
    }

    private static void promise14Undo() {
        RetiredCells x = new RetiredCells();
        for (int value = 1; value <= 6; value++) {
            x.write(0, 0, value);
        }
        due.is("14 four at most", x.count(16), 4);
        for (int left = 3; left >= 0; left--) {
            due.is("14 left", x.undo(), left);
            due.is("14 value", x.page(0, 0, 1), left + 2);
        }
        due.is("14 empty", x.undo(), NONE);
        due.is("14 value stays", x.page(0, 0, 1), 2);
        x.write(0, 0, 9);
        due.is("14 recorded anew", x.count(16), 1);

        RetiredCells all = new RetiredCells();
        all.write(1, 1, 5);
        all.pin(1, 1, true);
        Due.perform(all, "s;w00=9;e0;e0;e0;h5;h1;.12;e20");
        due.is("14 left", all.undo(), 2);
        int[] counts = {0, 39, 1, 0, 0, 0, 1, 1, 0, 0, 0, 0, 0, 3, 10, 0, 2};
        for (int what = 0; what < counts.length; what++) {
            due.is("14 count(" + what + ")", all.count(what), counts[what]);
        }
        due.is("14 page", all.page(1, 1, 0) * 100 + all.page(1, 1, 1) * 10 + all.page(1, 1, 2), 51);
        due.is("14 list", all.list(0), NONE);
        due.is("14 errors", all.cell(20, 1), 0);
        due.is("14 lost", all.program(0, 2), 0);
        due.is("14 moves", all.program(0, 3), 0);
        all.set(2, 2);
        due.is("14 the cell given last", all.next(), 1);
    }

    /** Each kind of act records the state just ahead of it, whatever was recorded last. */
    private static void promise14EachAct() {
        RetiredCells x = new RetiredCells();
        x.write(0, 0, 1);
        x.pin(0, 0, true);
        x.giveBack(0, 0);
        x.undo();
        due.is("14 giveBack", x.page(0, 0, 2), 1);
        x.error(7);
        x.pin(0, 0, false);
        x.undo();
        due.is("14 pin", x.cell(7, 1) * 10 + x.page(0, 0, 2), 11);
        x.pass(3);
        x.error(7);
        x.undo();
        due.is("14 error", x.count(0) * 10 + x.cell(7, 1), 31);
        x.error(8);
        x.hardError(0);
        x.undo();
        due.is("14 hardError", x.cell(8, 1) * 10 + x.page(0, 0, 1), 11);
        x.pin(0, 0, false);
        x.start();
        x.undo();
        due.is("14 start", x.page(0, 0, 1) * 10 + x.page(0, 0, 2), 10);
        x.error(8);
        x.pass(20);
        x.undo();
        due.is("14 pass", x.cell(8, 1) * 10 + x.count(0), 23);
        x.error(0);
        x.set(0, 1);
        x.undo();
        due.is("14 set", x.count(13) * 10 + x.cell(0, 1), 31);
        x.hardError(20);
        x.write(1, 1, 2);
        x.undo();
        due.is("14 write", x.cell(20, 0) * 10 + x.page(1, 1, 0), 20 + NONE);
        x.error(0);
        Due.perform(x, "e0");
        due.is("14 moved by perform", x.page(0, 0, 3), 1);
        x.undo();
        due.is("14 perform", x.cell(0, 1) * 10 + x.page(0, 0, 3), 20);
        x.keep();
        x.error(0);
        x.hardError(21);
        x.restore();
        due.is("14 restored moves", x.page(0, 0, 3), 0);
        due.is("14 restored list", x.list(0) * 10 + x.count(5), 201);
        x.undo();
        due.is("14 restore", x.list(0) * 10000 + x.list(1) * 100 + x.list(2), 200021);
    }

    private static void promise14WhatRecords() {
        RetiredCells x = new RetiredCells();
        x.keep();
        x.type('s');
        x.clearText();
        x.undo();
        x.next();
        due.is("14 no acts", x.count(16), 0);
        x.start();
        due.is("14 start", x.count(16), 1);
        x.pass(1);
        due.is("14 pass", x.count(16), 2);
        x.restore();
        due.is("14 restore", x.count(16), 3);
        x.hardError(0);
        due.is("14 hardError", x.count(16), 4);
        x.undo();
        due.is("14 restored day", x.count(0), 0);
        x.undo();
        due.is("14 undone restore", x.count(0), 1);
    }

    private static void promise15Keep() {
        RetiredCells x = new RetiredCells();
        due.is("15 none", x.keep(), 0);
        x.hardError(3);
        x.hardError(4);
        due.is("15 two", x.keep(), 2);
        x.hardError(5);
        due.is("15 in place of the one that was", x.restore(), 2);
        due.is("15 no act", x.count(16), 4);
    }

    private static void promise16Restore() {
        RetiredCells x = new RetiredCells();
        due.is("16 none", x.restore(), NONE);
        due.is("16 no act", x.count(16), 0);
        x.write(0, 0, 11);
        x.hardError(30);
        Due.text(x, "s;.3");
        x.keep();
        x.perform();
        Due.perform(x, "p00");
        due.is("16 restored", x.restore(), 1);
        due.is("16 value", x.page(0, 0, 1), 11);
        due.is("16 day", x.count(0), 0);
        due.is("16 the text is not of it", x.count(17), 3);
        due.is("16 nor the stop", x.stopped(0), 0);
        due.is("16 nor the history", x.count(16), 4);
        x.hardError(31);
        due.is("16 it stays", x.restore(), 1);
        due.is("16 undo", x.undo(), 3);
        due.is("16 behind undo", x.count(3), 2);
        due.is("16 undo leaves it", x.restore(), 1);
        RetiredCells other = new RetiredCells();
        other.hardError(1);
        other.keep();
        other.undo();
        other.hardError(2);
        other.restore();
        due.is("16 the list", other.list(0), 1);
        due.is("16 its cell", other.cell(1, 5) * 10 + other.cell(2, 0), 0);
    }

    private static void promise17Page() {
        RetiredCells x = new RetiredCells();
        due.is("17 program -1", x.page(-1, 0, 0), UNKNOWN);
        due.is("17 program 5", x.page(5, 0, 0), UNKNOWN);
        due.is("17 page -1", x.page(0, -1, 0), UNKNOWN);
        due.is("17 page 10", x.page(0, 10, 9), UNKNOWN);
        due.is("17 what -1", x.page(0, 0, -1), BAD_VALUE);
        due.is("17 what 4", x.page(0, 0, 4), BAD_VALUE);
        due.is("17 no value", x.page(4, 9, 1), NONE);
        x.write(4, 9, 88);
        Runs.errors(x, 0, 3);
        Runs.errors(x, 1, 3);
        x.pin(4, 9, true);
        due.is("17 cell", x.page(4, 9, 0), 2);
        due.is("17 value", x.page(4, 9, 1), 88);
        due.is("17 pinned", x.page(4, 9, 2), 1);
        due.is("17 moved twice", x.page(4, 9, 3), 2);
        x.write(4, 9, 1);
        due.is("17 written again", x.page(4, 9, 3), 2);
        x.giveBack(4, 9);
        x.write(4, 9, 1);
        due.is("17 given a cell anew", x.page(4, 9, 3), 0);
        due.is("17 the program's moves stay", x.program(4, 3), 2);
    }

    private static void promise18Program() {
        RetiredCells x = new RetiredCells();
        due.is("18 program -1", x.program(-1, 0), UNKNOWN);
        due.is("18 program 5", x.program(5, 9), UNKNOWN);
        due.is("18 what -1", x.program(0, -1), BAD_VALUE);
        due.is("18 what 4", x.program(0, 4), BAD_VALUE);
        x.write(0, 9, 1);
        x.write(1, 0, 1);
        x.write(1, 9, 1);
        x.pin(1, 9, true);
        due.is("18 pages", x.program(1, 0) * 10 + x.program(0, 0), 21);
        due.is("18 pinned", x.program(1, 1) * 10 + x.program(0, 1), 10);
        Runs.errors(x, 1, 3);
        x.hardError(2);
        due.is("18 lost", x.program(1, 2) * 10 + x.program(0, 2), 10);
        due.is("18 moves", x.program(1, 3) * 10 + x.program(0, 3), 10);
        due.is("18 pages then", x.program(1, 0), 1);
        due.is("18 pinned then", x.program(1, 1), 0);
        x.start();
        due.is("18 behind a start", x.program(1, 2) * 10 + x.program(1, 3), 11);
    }

    private static void promise19Cell() {
        RetiredCells x = new RetiredCells();
        due.is("19 cell -1", x.cell(-1, 0), UNKNOWN);
        due.is("19 cell 40", x.cell(40, 9), UNKNOWN);
        due.is("19 what -1", x.cell(0, -1), BAD_VALUE);
        due.is("19 what 6", x.cell(0, 6), BAD_VALUE);
        x.write(3, 7, 1);
        x.pin(3, 7, true);
        x.hardError(39);
        Runs.errors(x, 0, 4);
        int[] used = {1, 4, 3, 7, 1, NONE};
        int[] free = {0, 0, NONE, NONE, 0, NONE};
        int[] retired = {2, 0, NONE, NONE, 0, 0};
        for (int what = 0; what < 6; what++) {
            due.is("19 used " + what, x.cell(0, what), used[what]);
            due.is("19 free " + what, x.cell(1, what), free[what]);
            due.is("19 retired " + what, x.cell(39, what), retired[what]);
        }
        Runs.errors(x, 5, 3);
        due.is("19 a retired one does not wait", x.cell(5, 4), 0);
        due.is("19 place", x.cell(5, 5), 1);
    }

    private static void promise20List() {
        RetiredCells x = new RetiredCells();
        due.is("20 rank -1", x.list(-1), BAD_VALUE);
        due.is("20 empty", x.list(0), NONE);
        for (int cell = 39; cell > 25; cell--) {
            x.hardError(cell);
        }
        for (int rank = 0; rank < 12; rank++) {
            due.is("20 rank", x.list(rank), 39 - rank);
        }
        due.is("20 rank 12", x.list(12), NONE);
        due.is("20 great rank", x.list(Integer.MAX_VALUE), NONE);
    }

    private static void promise21Next() {
        RetiredCells x = new RetiredCells();
        x.hardError(0);
        due.is("21 not a retired one", x.next(), 1);
        x.write(0, 0, 0);
        due.is("21 not a used one", x.next(), 2);
        due.is("21 nothing given", x.next(), 2);
        x.error(2);
        x.set(2, 1);
        due.is("21 by 1", x.next(), 3);
        x.set(2, 2);
        due.is("21 by 2", x.next(), 2);
        due.is("21 full", Runs.fullMemory().next(), NONE);
    }

    private static void promise22Reason() {
        RetiredCells x = Runs.fullMemory();
        due.is("22 cell -1", x.reason(-1), UNKNOWN);
        due.is("22 cell 40", x.reason(40), UNKNOWN);
        due.is("22 not bad", x.reason(0), 1);
        x.pin(0, 0, true);
        due.is("22 not bad, pinned", x.reason(0), 1);
        Runs.errors(x, 0, 3);
        due.is("22 pinned, and no room", x.reason(0), 2);
        Runs.errors(x, 1, 3);
        due.is("22 no room", x.reason(1), 3);
        x.hardError(2);
        due.is("22 retired", x.reason(2), 0);
    }

    private static void promise23ErrorsLeft() {
        RetiredCells x = new RetiredCells();
        due.is("23 cell -1", x.errorsLeft(-1), UNKNOWN);
        due.is("23 cell 40", x.errorsLeft(40), UNKNOWN);
        due.is("23 three", x.errorsLeft(0), 3);
        x.set(0, 20);
        due.is("23 twenty", x.errorsLeft(39), 20);
        x.error(39);
        due.is("23 nineteen", x.errorsLeft(39), 19);
        x.write(0, 0, 1);
        due.is("23 used", x.errorsLeft(0), 20);
        x.pin(0, 0, true);
        due.is("23 pinned", x.errorsLeft(0), NONE);
        x.hardError(5);
        due.is("23 retired", x.errorsLeft(5), NOT_POSSIBLE);
        due.is("23 no act", x.count(8), 1);
        RetiredCells full = Runs.fullMemory();
        due.is("23 no room", full.errorsLeft(3), NONE);
        full.giveBack(0, 0);
        due.is("23 room", full.errorsLeft(3), 3);
        due.is("23 the free one itself", full.errorsLeft(0), 3);
        Runs.errors(full, 0, 3);
        due.is("23 no room any more", full.errorsLeft(3), NONE);
        Runs.errors(full, 3, 3);
        due.is("23 it waits", full.errorsLeft(3), NONE);
    }

    private static void promise24Worst() {
        RetiredCells x = new RetiredCells();
        due.is("24 none", x.worst(), NONE);
        x.error(7);
        due.is("24 one", x.worst(), 7);
        x.error(5);
        due.is("24 the lowest", x.worst(), 5);
        x.error(9);
        x.error(9);
        due.is("24 the most", x.worst(), 9);
        x.error(9);
        due.is("24 not a retired one", x.worst(), 5);
        x.error(0);
        due.is("24 the lowest of all", x.worst(), 0);
    }

    private static void promise25IfStarted() {
        RetiredCells x = Runs.fullMemory();
        due.is("25 all", x.ifStarted(), 40);
        for (int cell = 0; cell < 13; cell++) {
            x.hardError(cell);
            due.is("25 but the list", x.ifStarted(), Math.max(28, 39 - cell));
        }
        due.is("25 no start", x.count(12), 0);
        due.is("25 as a start tells", x.start(), 28);
    }

    private static void promise26Count() {
        RetiredCells x = new RetiredCells();
        due.is("26 what -1", x.count(-1), BAD_VALUE);
        due.is("26 what 18", x.count(18), BAD_VALUE);
        x.set(0, 2);
        x.set(1, 50);
        x.set(2, 1);
        Due.perform(x, "w00=1;w01=2;w10=3;w20=4;p00;p20;e0;e0;e0;e1;e1;h2;h3");
        Due.perform(x, "s;w00=1;p00;w01=1;e0;.60;e4;e4;e5;s;w33=3;w34=3;p33");
        int[] counts = {60, 34, 2, 4, 0, 4, 2, 1, 9, 2, 2, 2, 2, 2, 50, 1, 4, 50};
        x.error(x.page(3, 3, 0));
        x.error(x.page(3, 3, 0));
        counts[8] = 11;
        counts[4] = 1;
        counts[17] = "s;w00=1;p00;w01=1;e0;.60;e4;e4;e5;s;w33=3;w34=3;p33".length();
        for (int what = 0; what < counts.length; what++) {
            due.is("26 count(" + what + ")", x.count(what), counts[what]);
        }
    }
}
