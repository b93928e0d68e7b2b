/** Long runs of calls, always the same ones, whose answers and states are compared with those of the model. */
public final class ModelTest {
    private static final int RUNS = 400;
    private static final int CALLS = 150;

    private static final Due due = new Due();
    private static long seed;
    private static RetiredCells x;
    private static Model model;
    private static String before;

    public static void main(String[] args) {
        for (int run = 0; run < RUNS; run++) {
            seed = run * 7919L + 17;
            x = new RetiredCells();
            model = new Model();
            begin(run % 7);
            for (int call = 0; call < CALLS; call++) {
                before = "run " + run + ", call " + call + ": ";
                oneCall(run % 4);
                compareAll(call % 5 == 0);
            }
        }
        due.end();
    }

    /** A number from 0 to bound - 1. */
    private static int below(int bound) {
        seed = seed * 6364136223846793005L + 1442695040888963407L;
        return (int) Math.floorMod(seed >>> 33, (long) bound);
    }

    /** A number in the range, seldom one beside it. */
    private static int about(int lowest, int highest) {
        int chance = below(60);
        if (chance == 0) {
            return lowest - 1;
        }
        return chance == 1 ? highest + 1 : lowest + below(highest - lowest + 1);
    }

    /** Beginnings that a run would not come to by chance: the last days, and a memory with few cells or none left. */
    private static void begin(int kind) {
        before = "beginning " + kind + ": ";
        if (kind == 1 || kind == 3) {
            for (int i = 0; i < 100; i++) {
                due.is(before + "pass(99)", x.pass(99), model.pass(99));
            }
        }
        if (kind == 2 || kind == 3) {
            int kept = below(4);
            for (int cell = 0; cell < 40 - kept; cell++) {
                due.is(before + "hardError(" + cell + ")", x.hardError(cell), model.hardError(cell));
            }
        }
    }

    /** The four kinds of runs: all cells alike, a full memory, many hard errors, many texts. */
    private static void oneCall(int kind) {
        int chance = below(100);
        if (kind == 1 && chance < 35) {
            write();
        } else if (kind == 2 && chance < 12) {
            hardError();
        } else if (kind == 3 && chance < 60) {
            text();
        } else if (chance < 18) {
            write();
        } else if (chance < 24) {
            giveBack();
        } else if (chance < 34) {
            pin();
        } else if (chance < 64) {
            error();
        } else if (chance < 67) {
            hardError();
        } else if (chance < 69) {
            due.is(before + "start()", x.start(), model.start());
        } else if (chance < 74) {
            pass();
        } else if (chance < 79) {
            set();
        } else if (chance < 88) {
            text();
        } else if (chance < 93) {
            due.is(before + "undo()", x.undo(), model.undo());
        } else if (chance < 96) {
            due.is(before + "keep()", x.keep(), model.keep());
        } else {
            due.is(before + "restore()", x.restore(), model.restore());
        }
    }

    private static void write() {
        int program = about(0, 4);
        int page = about(0, 9);
        int value = about(0, 9999);
        due.is(before + "write(" + program + ", " + page + ", " + value + ")", x.write(program, page, value),
            model.write(program, page, value));
    }

    private static void giveBack() {
        int program = about(0, 4);
        int page = about(0, 9);
        due.is(before + "giveBack(" + program + ", " + page + ")", x.giveBack(program, page),
            model.giveBack(program, page));
    }

    private static void pin() {
        int program = about(0, 4);
        int page = about(0, 9);
        boolean pinned = below(3) > 0;
        due.is(before + "pin(" + program + ", " + page + ", " + pinned + ")", x.pin(program, page, pinned),
            model.pin(program, page, pinned));
    }

    private static void error() {
        int cell = below(2) == 0 ? about(0, 39) : below(8);
        int times = 1 + below(2);
        for (int i = 0; i < times; i++) {
            due.is(before + "error(" + cell + ")", x.error(cell), model.error(cell));
        }
    }

    private static void hardError() {
        int cell = about(0, 39);
        due.is(before + "hardError(" + cell + ")", x.hardError(cell), model.hardError(cell));
    }

    private static void pass() {
        int days = below(3) == 0 ? about(1, 99) : 1 + below(12);
        due.is(before + "pass(" + days + ")", x.pass(days), model.pass(days));
    }

    private static void set() {
        int which = about(0, 2);
        int value = which == 0 ? 1 + below(6) : which == 1 ? about(1, 99) : about(0, 2);
        due.is(before + "set(" + which + ", " + value + ")", x.set(which, value), model.set(which, value));
    }

    private static void text() {
        StringBuilder text = new StringBuilder(thing());
        int things = below(9);
        for (int i = 0; i < things; i++) {
            text.append(';').append(thing());
        }
        if (below(3) == 0) {
            spoil(text);
        }
        due.is(before + "clearText()", x.clearText(), model.clearText());
        for (int i = 0; i < text.length(); i++) {
            due.is(before + "type", x.type(text.charAt(i)), model.type(text.charAt(i)));
        }
        due.is(before + "perform() of " + text, x.perform(), model.perform());
    }

    private static String thing() {
        int chance = below(20);
        String page = "" + below(5) + below(10);
        if (chance < 6) {
            return "w" + page + "=" + (below(4) == 0 ? below(10) : below(10000));
        }
        if (chance < 8) {
            return "f" + page;
        }
        if (chance < 10) {
            return "p" + page;
        }
        if (chance < 16) {
            return "e" + below(40);
        }
        if (chance == 16) {
            return "h" + below(40);
        }
        return chance == 17 && below(3) == 0 ? "s" : "." + (1 + below(99));
    }

    private static void spoil(StringBuilder text) {
        String signs = "wfpehs.;=0123456789 x";
        char sign = below(40) == 0 ? (char) below(65536) : signs.charAt(below(signs.length()));
        int at = below(text.length());
        switch (below(4)) {
            case 0:
                text.setCharAt(at, sign);
                break;
            case 1:
                text.insert(at, sign);
                break;
            case 2:
                text.deleteCharAt(at);
                break;
            default:
                text.setLength(at);
        }
    }

    private static void compareAll(boolean withWrongArguments) {
        int more = withWrongArguments ? 1 : 0;
        for (int cell = -more; cell < 40 + more; cell++) {
            for (int what = -more; what < 6 + more; what++) {
                due.is(before + "cell(" + cell + ", " + what + ")", x.cell(cell, what), model.cell(cell, what));
            }
            due.is(before + "reason(" + cell + ")", x.reason(cell), model.reason(cell));
            if (withWrongArguments) {
                due.is(before + "errorsLeft(" + cell + ")", x.errorsLeft(cell), model.errorsLeft(cell));
            }
        }
        for (int program = -more; program < 5 + more; program++) {
            for (int page = -more; page < 10 + more; page++) {
                for (int what = -more; what < 4 + more; what++) {
                    due.is(before + "page(" + program + ", " + page + ", " + what + ")",
                        x.page(program, page, what), model.page(program, page, what));
                }
            }
            for (int what = -more; what < 4 + more; what++) {
                due.is(before + "program(" + program + ", " + what + ")", x.program(program, what),
                    model.program(program, what));
            }
        }
        for (int what = -more; what < 18 + more; what++) {
            due.is(before + "count(" + what + ")", x.count(what), model.count(what));
        }
        for (int rank = -more; rank < 14; rank++) {
            due.is(before + "list(" + rank + ")", x.list(rank), model.list(rank));
        }
        for (int what = -more; what < 2 + more; what++) {
            due.is(before + "stopped(" + what + ")", x.stopped(what), model.stopped(what));
        }
        due.is(before + "next()", x.next(), model.next());
        due.is(before + "worst()", x.worst(), model.worst());
        due.is(before + "ifStarted()", x.ifStarted(), model.ifStarted());
    }
}
