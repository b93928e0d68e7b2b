/** Compares answers with those that are due, and counts the wrong ones. */
final class Due {
    private int wrong;
    private int looked;

    void is(String call, long got, long want) {
        looked++;
        if (got != want) {
            wrong++;
            System.out.println(call + " answered " + got + ", due is " + want);
        }
    }

    /** Tells the places at which two rows differ. */
    void same(String what, int[] got, int[] want) {
        is(what + ": length", got.length, want.length);
        for (int i = 0; i < Math.min(got.length, want.length); i++) {
            is(what + ": place " + i, got[i], want[i]);
        }
    }

    /** Types a text in place of the one that was. */
    static void text(RetiredCells x, String text) {
        x.clearText();
        for (int i = 0; i < text.length(); i++) {
            x.type(text.charAt(i));
        }
    }

    static int perform(RetiredCells x, String text) {
        text(x, text);
        return x.perform();
    }

    void end() {
        System.out.println(looked + " answers looked at, " + wrong + " not as due");
        if (wrong != 0 || looked == 0) {
            System.exit(1);
        }
    }
}
