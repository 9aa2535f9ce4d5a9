import java.util.NoSuchElementException;

/** Promise 38: OFFERS, HOPE and LEAST, each bound on both sides. */
public final class EdgesOfHopeTest {
    public static void main(String[] args) {
        oneToSixMinutes();
        oneToSixOffers();
        offersOfBounds();
        wholeAndRest();
        notBelowNothing();
        atLeastAsMuch();
        theLeastOfThem();
        nowHeldByWhoever();
        openDeedsAlone();
        throwsInTheirOrder();
        Check.end("EdgesOfHopeTest");
    }

    /** A gift of no worth to anybody: an offer brings what it is. */
    private static TillTheBell gift() {
        TillTheBell x = Check.of("people 2;coins 1 50;thing 0;thing 0;bell 5;");
        x.sell(0, 1, 0);
        return x;
    }

    private static void hoped(TillTheBell x, int n, int whole, int rest, int least) {
        Check.is("whole coins in " + n, x.hope(0, 0, n, 0), whole);
        Check.is("rest in " + n, x.hope(0, 0, n, 1), rest);
        Check.is("least in " + n, x.hope(0, 0, n, 2), least);
    }

    /** "HOPE in n MINUTES (1 to 6)" */
    private static void oneToSixMinutes() {
        TillTheBell x = gift();
        Check.fill(x, 0, 1, 0, 8);
        // Halves: 4, 6, 7, 7 1/2, 7 3/4, 7 7/8; the lesser offer is taken only with one minute left.
        int[] whole = {4, 6, 7, 7, 7, 7};
        int[] rest = {0, 0, 0, 8, 24, 56};
        for (int n = 1; n <= 6; n++) {
            hoped(x, n, whole[n - 1], rest[n - 1], n == 1 ? 0 : 8);
        }
        for (int n : new int[] {-1, 0, 7, 8, Integer.MIN_VALUE, Integer.MAX_VALUE}) {
            for (int what = 0; what <= 2; what++) {
                int asked = what;
                Check.throwsA(IllegalArgumentException.class, "n " + n, () -> x.hope(0, 0, n, asked));
            }
        }
        for (int what : new int[] {-1, 3, Integer.MIN_VALUE, Integer.MAX_VALUE}) {
            Check.throwsA(IllegalArgumentException.class, "what " + what, () -> x.hope(0, 0, 1, what));
        }
    }

    /** "OFFERS in a TRAY (1 to 6 numbers ..)" */
    private static void oneToSixOffers() {
        TillTheBell x = gift();
        for (int k = 0; k <= 7; k++) {
            x.tray(0, 1, k);
            for (int i = 0; i < k; i++) {
                x.write(0, i, 6);
            }
            if (k >= 1 && k <= 6) {
                hoped(x, 1, 6, 0, 6);
                hoped(x, 6, 6, 0, 6);
            } else {
                Check.throwsA(IllegalArgumentException.class, k + " offers", () -> x.hope(0, 0, 1, 0));
                Check.throwsA(IllegalArgumentException.class, k + " offers", () -> x.hope(0, 0, 6, 2));
            }
        }
        x.tray(0, 3, 40);
        Check.throwsA(IllegalArgumentException.class, "40 offers", () -> x.hope(0, 0, 1, 0));
    }

    /** ".. of 0 to 9999" */
    private static void offersOfBounds() {
        for (int k = 1; k <= 6; k++) {
            offersAt(gift(), k);
        }
        // 128 is no offer in 8 bits, where it is -128; 127 is.
        TillTheBell y = gift();
        Check.fill(y, 0, 0, 127);
        hoped(y, 1, 127, 0, 127);
        Check.fill(y, 0, 0, 128);
        Check.throwsA(IllegalArgumentException.class, "128 in 8 bits", () -> y.hope(0, 0, 1, 0));
        Check.fill(y, 0, 1, 128);
        hoped(y, 1, 128, 0, 128);
        Check.fill(y, 0, 2, 9999);
        hoped(y, 6, 9999, 0, 9999);
    }

    private static void offersAt(TillTheBell x, int k) {
        x.tray(0, 3, k);
        for (int at = 0; at < k; at++) {
            x.write(0, at, 9999);
            hoped(x, 1, 9999 / k, 9999 % k, k == 1 ? 9999 : 0);
            for (long wrong : new long[] {-1, 10000, Long.MIN_VALUE, Long.MAX_VALUE, 1L << 32}) {
                x.write(0, at, wrong);
                Check.throwsA(IllegalArgumentException.class, wrong + " at " + at + " of " + k, () -> x.hope(0, 0, 1, 0));
            }
            x.write(0, at, 0);
            hoped(x, 1, 0, 0, 0);
        }
    }

    /** "as whole coins, cut"; "the rest, as a number of 1 / k to the n-th (k OFFERS)" */
    private static void wholeAndRest() {
        TillTheBell x = gift();
        for (int sum = 0; sum <= 6; sum++) {
            Check.fill(x, 0, 0, 0, 0, sum);
            hoped(x, 1, sum / 3, sum % 3, 0);
        }
        Check.fill(x, 0, 0, 0, 0, 0, 0, 0, 1);
        // 1 - (5 / 6)^n of a coin
        int[] rest = {1, 11, 91, 671, 4651, 31031};
        for (int n = 1; n <= 6; n++) {
            hoped(x, n, 0, rest[n - 1], n == 1 ? 0 : 1);
        }
        Check.fill(x, 0, 1, 0, 0, 0, 0, 0, 9999);
        hoped(x, 6, (int) (9999L * 31031 / 46656), (int) (9999L * 31031 % 46656), 9999);
    }

    /** "(nothing, if he never does)"; "and not below 0": the giver would give 38 back and owe nothing. */
    private static void notBelowNothing() {
        TillTheBell x = Check.of("people 2;coins 1 50;thing 0 20 30;share 50;");
        x.sell(0, 1, 38);
        for (int n = 1; n <= 6; n++) {
            Check.fill(x, 0, 0, 37);
            hoped(x, n, 0, 0, -1);
            Check.fill(x, 0, 0, 38);
            hoped(x, n, 0, 0, 38);
            Check.fill(x, 0, 0, 39);
            hoped(x, n, 1, 0, 39);
            Check.fill(x, 0, 0, 0, 0);
            hoped(x, n, 0, 0, -1);
        }
        Check.fill(x, 0, 0, 37, 39);
        hoped(x, 1, 0, 1, 39);
        hoped(x, 2, 0, 3, 39);
        // What the taker is owed counts, too: half of 12.
        TillTheBell y = Check.of("people 2;coins 1 50;thing 0 20 50;share 50;");
        y.sell(0, 1, 38);
        Check.fill(y, 0, 0, 43);
        hoped(y, 1, 0, 0, -1);
        Check.fill(y, 0, 0, 44);
        hoped(y, 1, 0, 0, 44);
    }

    /** "one is taken if it brings at least as much as HOPE in n less 1" */
    private static void atLeastAsMuch() {
        TillTheBell x = gift();
        // HOPE in 1 is 2: 2 is taken with two minutes left; in 2 it is 2 2/3.
        Check.fill(x, 0, 0, 0, 4, 2);
        hoped(x, 1, 2, 0, 0);
        hoped(x, 2, 2, 6, 2);
        hoped(x, 3, 3, 3, 4);
        // HOPE in 1 is 5 / 3: 1 is not taken, though as whole coins it is as much.
        Check.fill(x, 0, 0, 0, 4, 1);
        hoped(x, 2, 2, 4, 4);
        // HOPE in 1 is 2 1/3: 3 is taken, 2 is not.
        Check.fill(x, 0, 0, 2, 3, 2);
        hoped(x, 2, 2, 5, 3);
    }

    private static void theLeastOfThem() {
        TillTheBell x = gift();
        Check.fill(x, 0, 0, 9, 3, 7);
        hoped(x, 1, 6, 1, 3);
        hoped(x, 2, 7, 4, 7);
        Check.fill(x, 0, 0, 3, 9, 7);
        hoped(x, 2, 7, 4, 7);
        Check.fill(x, 0, 0, 7, 9, 3);
        hoped(x, 2, 7, 4, 7);
        Check.fill(x, 0, 0, 5, 5, 5, 5, 5, 5);
        hoped(x, 6, 5, 0, 5);
    }

    /** "is made for a THING to the GIVER of an OPEN DEED (now HELD by whoever) .. and have the offer instead of the THING" */
    private static void nowHeldByWhoever() {
        // The giver has it again, for 5: he gets these back, and 10, what it is worth to him, are gone.
        TillTheBell x = Check.of("people 2;coins 0 50;thing 0 10 0;share 0;");
        x.sell(0, 1, 0);
        x.sell(0, 0, 5);
        Check.fill(x, 0, 0, 7);
        hoped(x, 1, 2, 0, 7);
        Check.fill(x, 0, 0, 4);
        hoped(x, 1, 0, 0, -1);
        // A third one has it: the giver of the first owes both, half of 8 and of 6.
        TillTheBell y = Check.of("people 3;thing 0 10 8 6;share 50;");
        y.sell(0, 1, 0);
        y.sell(0, 2, 0);
        Check.fill(y, 0, 0, 20);
        hoped(y, 1, 13, 0, 20);
        Check.is("the giver of the second owes 3", y.hope(1, 0, 1, 0), 17);
    }

    /** "IllegalStateException: it is MISSING, the DEED isn't OPEN" */
    private static void openDeedsAlone() {
        TillTheBell x = gift();
        x.sell(1, 1, 0);
        Check.fill(x, 0, 0, 5);
        x.pass(4);
        Check.is("open", x.hope(1, 0, 1, 0), 5);
        x.undo(1, 0);
        Check.throwsA(IllegalStateException.class, "undone", () -> x.hope(1, 0, 1, 0));
        x.sell(1, 1, 0);
        x.eat(1);
        Check.throwsA(IllegalStateException.class, "eaten", () -> x.hope(2, 0, 1, 0));
        Check.is("the other one is open", x.hope(0, 0, 1, 0), 5);
        x.pass(1);
        Check.throwsA(IllegalStateException.class, "rung", () -> x.hope(0, 0, 1, 0));
    }

    private static void throwsInTheirOrder() {
        TillTheBell x = gift();
        for (int d : new int[] {-1, 1, 30, 32, Integer.MIN_VALUE, Integer.MAX_VALUE}) {
            Check.throwsA(NoSuchElementException.class, "deed " + d + ", missing tray", () -> x.hope(d, 0, 7, 3));
        }
        for (int tray : new int[] {-1, 4, Integer.MIN_VALUE, Integer.MAX_VALUE}) {
            Check.throwsA(NoSuchElementException.class, "tray " + tray, () -> x.hope(0, tray, 7, 3));
        }
        for (int tray = 0; tray < 4; tray++) {
            int t = tray;
            Check.throwsA(IllegalStateException.class, "missing " + tray, () -> x.hope(0, t, 7, 3));
        }
        x.undo(0, 0);
        x.tray(0, 0, 0);
        Check.throwsA(NoSuchElementException.class, "tray, ahead of not open", () -> x.hope(0, 4, 1, 0));
        Check.throwsA(IllegalStateException.class, "not open, ahead of n, what, offers", () -> x.hope(0, 0, 7, 3));
        x.sell(0, 1, 0);
        Check.throwsA(IllegalArgumentException.class, "no offers", () -> x.hope(1, 0, 1, 0));
        Check.throwsA(IllegalStateException.class, "the last tray is missing", () -> x.hope(1, 3, 1, 0));
        Check.fill(x, 3, 0, 5);
        Check.is("the last tray", x.hope(1, 3, 1, 0), 5);
    }
}
