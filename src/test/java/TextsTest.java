/** What the document says of texts, and the promises 10 to 13, sentence by sentence. */
public final class TextsTest {
    private static final int FULL = -3;
    private static final int NOT_POSSIBLE = -4;
    private static final int NONE = -5;
    private static final int BAD_VALUE = -2;
    private static final String THIRTY_STARTS = "s;s;s;s;s;s;s;s;s;s;s;s;s;s;s;s;s;s;s;s;s;s;s;s;s;s;s;s;s;s";

    private static final Due due = new Due();

    public static void main(String[] args) {
        sixtyCharacters();
        emptyAtFirst();
        clearedAndTypedAnew();
        things();
        numbers();
        faults();
        each();
        performed();
        stops();
        due.end();
    }

    private static void fault(String text, int fault) {
        RetiredCells x = new RetiredCells();
        due.is("fault of '" + text + "'", Due.perform(x, text), -100 - fault);
        due.is("nothing is recorded by '" + text + "'", x.count(16), 0);
        due.is("the text stays: '" + text + "'", x.count(17), text.length());
        due.is("no stop by '" + text + "'", x.stopped(0), NONE);
    }

    /** In a full memory with all pages that have cells, so that most things are possible. */
    private static void fine(String text, int things) {
        RetiredCells x = Runs.fullMemory();
        due.is("things of '" + text + "'", Due.perform(x, text), things);
    }

    // ---- the length of the text

    /** "There is a text of at most 60 characters"; "FULL if it has 60 characters" */
    private static void sixtyCharacters() {
        RetiredCells x = new RetiredCells();
        for (int length = 1; length <= 60; length++) {
            due.is("length", x.type(length % 2 == 1 ? 's' : ';'), length);
        }
        due.is("the 61st", x.type('s'), FULL);
        due.is("once more", x.type('s'), FULL);
        due.is("its length", x.count(17), 60);
        due.is("the last character is the 60th", x.perform(), -160);
        due.is("emptied", x.clearText(), 60);
        due.is("room again", x.type('s'), 1);
    }

    /** "empty at first"; "(the empty text does)" */
    private static void emptyAtFirst() {
        RetiredCells x = new RetiredCells();
        due.is("length", x.count(17), 0);
        due.is("the empty text ends too early", x.perform(), -100);
        due.is("emptied though it is empty", x.clearText(), 0);
        due.is("once more", x.clearText(), 0);
        due.is("no act", x.count(16), 0);
    }

    private static void clearedAndTypedAnew() {
        RetiredCells x = new RetiredCells();
        Due.text(x, "h39;h38");
        due.is("the length that it had", x.clearText(), 7);
        x.type('s');
        due.is("what was there is gone", x.perform(), 1);
        x.clearText();
        due.is("emptied behind perform", x.perform(), -100);
        Due.text(x, "e3");
        due.is("not with a digit from before", x.perform(), 1);
        due.is("cell 3", x.cell(3, 1), 1);
    }

    // ---- things

    private static void things() {
        oneOrMore();
        betweenTwo();
        otherSigns();
        programsAndPages();
    }

    /** "A text is one or more of these" */
    private static void oneOrMore() {
        fault("", 0);
        fine("s", 1);
        fine("s;s", 2);
        fine(THIRTY_STARTS, 30);
        fine("w00=1;f01;p02;e3;h4;s;.5", 7);
        fine("w00=9999;w01=9999;w02=9999;w03=9999;w04=9999;w05=9999;w06=99", 7);
    }

    /** "with ";" between two" */
    private static void betweenTwo() {
        fault(";", 0);
        fault(";s", 0);
        fault("s;", 2);
        fault("s;;s", 2);
        fault("ss", 1);
        fault("s s", 1);
        fault("s,s", 1);
        fault("s:s", 1);
        fault("e0 ", 2);
        fault("f00f01", 3);
        fault("p00w", 3);
        fault("w00=5w", 5);
        fault("e5h5", 2);
        fault("h39;", 4);
        fault(".9.", 2);
        fault(" s", 0);
        fault("s;x", 2);
        fault(THIRTY_STARTS + ";", 60);
        fault(THIRTY_STARTS.substring(0, 58) + "ss", 59);
    }

    /** "w", "f", "p", "e", "h", "s", ".": no other sign begins a thing. */
    private static void otherSigns() {
        for (char sign = 0; sign < 256; sign++) {
            if ("wfpehs.".indexOf(sign) < 0) {
                fault("" + sign, 0);
                fault("s;" + sign + "00=1", 2);
            }
        }
        for (char sign : new char[] {'w' + 256, 's' + 256, '.' + 1024, '0' + 256, 'W', 'S', '\u0660', '\uffff'}) {
            fault("" + sign, 0);
            fault("e" + sign, 1);
            fault("e1" + sign, 2);
            fault("w0" + sign, 2);
            fault("w00" + sign + "1", 3);
        }
        fault("s" + (char) (';' + 256) + "s", 1);
        fault("w00" + (char) ('=' + 256) + "1", 3);
    }

    /** "A program is a digit from 0 to 4, a page a digit" */
    private static void programsAndPages() {
        for (String kind : new String[] {"w", "f", "p"}) {
            fault(kind, 1);
            fault(kind + "0", 2);
            fault(kind + "5", 1);
            fault(kind + "50", 1);
            fault(kind + "9", 1);
            fault(kind + "/0", 1);
            fault(kind + ":0", 1);
            fault(kind + "4/", 2);
            fault(kind + "4:", 2);
            fault(kind + "4;", 2);
            fault(kind + ";", 1);
            fault(kind + "-1", 1);
        }
        fine("f00;f09;f49", 3);
        fine("p00;p09;p39", 3);
        fine("f09;w49=0", 2);
        fault("f000", 3);
        fault("p491", 3);
        fault("w000=1", 3);
    }

    // ---- numbers

    private static void numbers() {
        cells();
        values();
        daysOfATexts();
        singleDigitZero();
        digitThatIsTooMuch();
    }

    /** "a cell 0 to 39" */
    private static void cells() {
        for (String kind : new String[] {"e", "h"}) {
            for (int cell = 0; cell <= 39; cell++) {
                RetiredCells x = new RetiredCells();
                due.is(kind + cell, Due.perform(x, kind + cell), 1);
                due.is(kind + cell + " is told", x.cell(cell, kind.equals("e") ? 1 : 0), kind.equals("e") ? 1 : 2);
            }
            for (int cell = 40; cell <= 99; cell++) {
                fault(kind + cell, 2);
            }
            fault(kind, 1);
            fault(kind + ";", 1);
            fault(kind + "=", 1);
            fault(kind + "-1", 1);
            fault(kind + "/", 1);
            fault(kind + ":", 1);
            fault(kind + "3/", 2);
            fault(kind + "3:", 2);
        }
    }

    /** "a value 0 to 9999" */
    private static void values() {
        for (int value : new int[] {0, 1, 9, 10, 99, 100, 999, 1000, 1001, 9998, 9999}) {
            RetiredCells x = new RetiredCells();
            due.is("w00=" + value, Due.perform(x, "w00=" + value), 1);
            due.is("value " + value, x.page(0, 0, 1), value);
        }
        fault("w00=10000", 8);
        fault("w00=99990", 8);
        fault("w00=99999", 8);
        fault("w00=", 4);
        fault("w00", 3);
        fault("w00=;", 4);
        fault("w00==1", 4);
        fault("w00=-1", 4);
        fault("w00 =1", 3);
        fault("w00;", 3);
        fault("w001", 3);
    }

    /** "days (1 to 99: they pass)" */
    private static void daysOfATexts() {
        for (int days = 1; days <= 99; days++) {
            RetiredCells x = new RetiredCells();
            due.is("." + days, Due.perform(x, "." + days), 1);
            due.is("day " + days, x.count(0), days);
        }
        fault(".", 1);
        fault(".;", 1);
        fault(".0", 1);
        fault(".00", 1);
        fault(".100", 3);
        fault(".990", 3);
        fault(".-1", 1);
        fault("..", 1);
    }

    /** "Numbers have no zero in front, unless they are the single digit 0" */
    private static void singleDigitZero() {
        fine("e0", 1);
        fine("h0", 1);
        fine("w00=0", 1);
        fine("e0;e0", 2);
        for (char digit = '0'; digit <= '9'; digit++) {
            fault("e0" + digit, 2);
            fault("h0" + digit, 2);
            fault("w00=0" + digit, 5);
            fault(".0" + digit, 1);
        }
        fault("w00=00000", 5);
        fault("w00=0001", 5);
    }

    /** "a digit by which a number would be greater than told is not allowed" */
    private static void digitThatIsTooMuch() {
        for (char digit = '0'; digit <= '9'; digit++) {
            fault("e4" + digit, 2);
            fault("h9" + digit, 2);
            fault("e10" + digit, 3);
            fault("h39" + digit, 3);
            fault("w49=1000" + digit, 8);
            fault("w49=9999" + digit, 8);
            fault(".10" + digit, 3);
            fault(".99" + digit, 3);
            fine("e3" + digit, 1);
            fine(".9" + digit, 1);
            fine("w00=999" + digit, 1);
        }
        fine("e4", 1);
        fine("h9", 1);
    }

    // ---- faults

    private static void faults() {
        firstOneThatIsNotAllowed();
        endsTooEarly();
        endsAtSixty();
        faultComesFirst();
        faultIsNoStop();
    }

    /** "The fault of the text is the index, from 0, of the first character that is not allowed at its place" */
    private static void firstOneThatIsNotAllowed() {
        fault("x;y", 0);
        fault("s;y;z", 2);
        fault("e1;e2;e40;e50", 8);
        fault("w00=1;w50=1;x", 7);
        fault("s;s;s;s;s;s;s;s;s;s;s;s;s;s;s;s;s;s;s;s;s;s;s;s;s;s;s;s;s;x", 58);
        fault("s;s;s;s;s;s;s;s;s;s;s;s;s;s;s;s;s;s;s;s;s;s;s;s;s;s;s;s;ssss", 57);
    }

    /** "or the length of the text if it ends too early" */
    private static void endsTooEarly() {
        for (String whole : new String[] {"w49=5", "f49", "p49", "e5", "h5", ".5"}) {
            for (int length = 0; length < whole.length(); length++) {
                fault(whole.substring(0, length), length);
                fault("s;" + whole.substring(0, length), 2 + length);
            }
        }
    }

    /** "the length of the text if it ends too early": at its greatest length */
    private static void endsAtSixty() {
        String fiftySix = THIRTY_STARTS.substring(0, 56);
        for (String end : new String[] {"w", "f", "p", "e", "h", ".", "s;"}) {
            String text = THIRTY_STARTS.substring(0, 60 - end.length() - end.length() % 2) + end;
            fault(text, text.length());
        }
        fault(fiftySix + "s;s;", 60);
        fault(fiftySix + "w00=", 60);
        fault(fiftySix + "w00", 59);
        fine(fiftySix + "s;e3", 30);
        fine(fiftySix + "e39", 29);
        fine(THIRTY_STARTS.substring(0, 54) + "w00=12", 28);
        fault(THIRTY_STARTS.substring(0, 54) + "f00;f0", 60);
    }

    /** "-100 minus the fault of the text if it has one": nothing is done of what stands before it. */
    private static void faultComesFirst() {
        RetiredCells x = new RetiredCells();
        due.is("a fault behind what is possible", Due.perform(x, "s;e0;x"), -105);
        due.is("no start", x.count(12), 0);
        due.is("no error", x.count(8), 0);
        due.is("a fault behind what would be stopped", Due.perform(x, "p00;x"), -104);
        due.is("no stop", x.stopped(0), NONE);
        due.is("nothing is recorded", x.count(16), 0);
    }

    /** "the latest stop": a fault is none. */
    private static void faultIsNoStop() {
        RetiredCells x = new RetiredCells();
        Due.perform(x, "s;p00");
        due.is("fault", Due.perform(x, "p"), -101);
        due.is("number", x.stopped(0), 1);
        due.is("error", x.stopped(1), NOT_POSSIBLE);
    }

    /** Each text that differs from a right one in one place, with each sign that may matter there, as Model has it. */
    private static void each() {
        String signs = "wfpehs.;=0123456789/:<x ";
        for (String text : new String[] {"w49=1234;f00", "p30;e39;.99", "h10;s;.1", "e4;w00=0;h9", "e0;.10"}) {
            for (int at = 0; at <= text.length(); at++) {
                for (int i = 0; i < signs.length(); i++) {
                    String put = text.substring(0, at) + signs.charAt(i);
                    asModel(put + text.substring(at));
                    asModel(put + text.substring(Math.min(text.length(), at + 1)));
                    asModel(put);
                }
            }
        }
    }

    private static void asModel(String text) {
        RetiredCells x = new RetiredCells();
        Model model = new Model();
        for (int i = 0; i < text.length(); i++) {
            due.is("type", x.type(text.charAt(i)), model.type(text.charAt(i)));
        }
        due.is("perform of '" + text + "'", x.perform(), model.perform());
        due.is("stop of '" + text + "'", x.stopped(0), model.stopped(0));
    }

    // ---- what is performed

    private static void performed() {
        oneAfterTheOther();
        allOrNothing();
        oneAct();
        noneDoesNotStop();
        pinsTurn();
        textStays();
        howManyThings();
    }

    /** "Does all that the text tells .. one after the other" */
    private static void oneAfterTheOther() {
        RetiredCells x = new RetiredCells();
        due.is("written, given back, written", Due.perform(x, "w00=1;w01=2;f00;w02=3;w01=4"), 5);
        due.is("the cell that came back", x.page(0, 2, 0), 0);
        due.is("the later value", x.page(0, 1, 1), 4);
        due.is("a start in the middle", Due.perform(x, "w03=1;s;w04=2"), 3);
        due.is("of before", x.page(0, 3, 0), NONE);
        due.is("of behind", x.page(0, 4, 0), 0);
        due.is("days pass ahead of errors", Due.perform(x, "e9;.10;e9;e9"), 4);
        due.is("one is forgotten", x.cell(9, 1), 2);
    }

    /** "all of it, or nothing" */
    private static void allOrNothing() {
        RetiredCells x = new RetiredCells();
        x.write(0, 0, 1);
        x.keep();
        Due.text(x, "w00=9;p00;e0;h20;.12;s;w01=1;e39;f01;h20");
        int[] was = Runs.told(x);
        was[was.length - 2] = 9;
        was[was.length - 1] = NOT_POSSIBLE;
        due.is("stopped at the last thing", x.perform(), NOT_POSSIBLE);
        due.same("nothing of it", Runs.told(x), was);
        due.is("the history too", x.undo(), 0);
        due.is("the state ahead of the write", x.page(0, 0, 0), NONE);
    }

    /** "This is one act." */
    private static void oneAct() {
        RetiredCells x = new RetiredCells();
        due.is("six things", Due.perform(x, "w00=1;w01=2;e0;.1;s;h3"), 6);
        due.is("one state", x.count(16), 1);
        due.is("undo", x.undo(), 0);
        due.is("day", x.count(0), 0);
        due.is("retired", x.count(3), 0);
        due.is("starts", x.count(12), 0);
    }

    /** "What would return NONE does not stop it" */
    private static void noneDoesNotStop() {
        RetiredCells x = new RetiredCells();
        due.is("pages without cells", Due.perform(x, "f00;f49;s"), 3);
        due.is("the start is done", x.count(12), 1);
        due.is("no stop", x.stopped(0), NONE);
        due.is("recorded", x.count(16), 1);
        due.is("only what is NONE", Due.perform(x, "f00"), 1);
        due.is("recorded too", x.count(16), 2);
    }

    /** ""p" .. (pinned, or not pinned any more, if it was)" */
    private static void pinsTurn() {
        RetiredCells x = new RetiredCells();
        due.is("pinned", Due.perform(x, "w00=1;p00"), 2);
        due.is("told", x.page(0, 0, 2), 1);
        due.is("not pinned any more", Due.perform(x, "p00"), 1);
        due.is("told", x.page(0, 0, 2), 0);
        due.is("three times", Due.perform(x, "p00;p00;p00"), 3);
        due.is("told", x.page(0, 0, 2), 1);
        due.is("without a cell", Due.perform(x, "f00;p00"), NOT_POSSIBLE);
        due.is("pinned still", x.page(0, 0, 2), 1);
    }

    /** "which stays" */
    private static void textStays() {
        RetiredCells x = new RetiredCells();
        due.is("once", Due.perform(x, "h0;.3"), 2);
        due.is("its length", x.count(17), 5);
        due.is("the cell is retired now", x.perform(), NOT_POSSIBLE);
        due.is("its length behind a stop", x.count(17), 5);
        x.undo();
        due.is("behind undo", x.perform(), 2);
        due.is("typed on", x.type(';'), 6);
        due.is("a fault", x.perform(), -106);
        due.is("its length behind a fault", x.count(17), 6);
    }

    /** "Returns how many things the text has" */
    private static void howManyThings() {
        fine("s", 1);
        fine("f00;f00", 2);
        fine("e0;e1;e2", 3);
        fine("e0;e1;e2;e3;e4;e5;e6;e7;e8;e9;h0;h1;h2;h3;h4;h5;h6;h7;h8;h9", 20);
        fine(THIRTY_STARTS.substring(0, 59), 30);
    }

    // ---- stops

    private static void stops() {
        nothingStoppedYet();
        whatOfStopped();
        stopsByEachError();
        latestStop();
        stopChangesNothingElse();
    }

    /** "NONE if nothing was stopped yet" */
    private static void nothingStoppedYet() {
        RetiredCells x = new RetiredCells();
        due.is("its number", x.stopped(0), NONE);
        due.is("its error", x.stopped(1), NONE);
        x.perform();
        Due.perform(x, "s");
        x.pin(0, 0, true);
        due.is("its number behind calls that are not stopped", x.stopped(0), NONE);
        due.is("its error behind them", x.stopped(1), NONE);
    }

    /** "0 for its number in the text, from 0, 1 for the error", "BAD_VALUE" ahead of NONE */
    private static void whatOfStopped() {
        RetiredCells x = new RetiredCells();
        due.is("what -1", x.stopped(-1), BAD_VALUE);
        due.is("what 2", x.stopped(2), BAD_VALUE);
        Due.perform(x, "p00");
        due.is("from 0", x.stopped(0), 0);
        due.is("the error", x.stopped(1), NOT_POSSIBLE);
        due.is("what -1 then", x.stopped(-1), BAD_VALUE);
        due.is("what 2 then", x.stopped(2), BAD_VALUE);
        Due.perform(x, THIRTY_STARTS.substring(0, 54) + "h0;h0");
        due.is("the number behind many", x.stopped(0), 28);
    }

    /** "What would return an error stops it": by each thing that can */
    private static void stopsByEachError() {
        stop("w40=1", FULL);
        stop("p40", NOT_POSSIBLE);
        stop("e39", NOT_POSSIBLE);
        stop("h39", NOT_POSSIBLE);
        stop(".99", FULL);
    }

    /** In a memory that is full behind "h39", on a day that is the last one but one. */
    private static void stop(String thing, int error) {
        RetiredCells x = Runs.fullMemory();
        Runs.untilDay(x, 9998);
        due.is("possible ahead of '" + thing + "'", Due.perform(x, "h39;f49;.1"), 3);
        x.undo();
        due.is("'" + thing + "' stops", Due.perform(x, "h39;f49;" + thing), NOT_POSSIBLE);
        due.is("number of '" + thing + "'", x.stopped(0), 2);
        due.is("error of '" + thing + "'", x.stopped(1), error);
        due.is("nothing of it", x.cell(39, 0), 1);
    }

    /** "Tells of the latest stop" */
    private static void latestStop() {
        RetiredCells x = Runs.fullMemory();
        Due.perform(x, "s;s;p00");
        due.is("the first one's number", x.stopped(0), 2);
        due.is("the first one's error", x.stopped(1), NOT_POSSIBLE);
        Due.perform(x, "f49;w40=1");
        due.is("the second one's number", x.stopped(0), 1);
        due.is("the second one's error", x.stopped(1), FULL);
        Due.perform(x, "s");
        due.is("it stays when a text goes through", x.stopped(0), 1);
        due.is("its error stays", x.stopped(1), FULL);
    }

    /** "A call that returns an error .. changes nothing (but for the latest stop of perform())." */
    private static void stopChangesNothingElse() {
        RetiredCells x = new RetiredCells();
        for (int i = 0; i < 4; i++) {
            x.pass(1);
        }
        x.keep();
        due.is("stopped", Due.perform(x, ".1;h0;h0"), NOT_POSSIBLE);
        due.is("the history", x.count(16), 4);
        due.is("undo", x.undo(), 3);
        due.is("the state before the last act", x.count(0), 3);
        x.undo();
        x.undo();
        x.undo();
        due.is("the oldest state is not dropped", x.count(0), 0);
        x.restore();
        due.is("the snapshot", x.count(0) * 10 + x.count(3), 40);
    }
}
