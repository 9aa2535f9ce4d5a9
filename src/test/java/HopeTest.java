import java.util.NoSuchElementException;

/** Promise 38: offers and hope. */
public final class HopeTest {
    private static final String TOWN = "people 3;coins 1 200;coins 2 200;thing 0 10 50 60;share 40;bell 9;";

    public static void main(String[] args) {
        threeOffers();
        edges();
        aChain();
        wrong();
        Check.end("HopeTest");
    }

    private static TillTheBell sold() {
        TillTheBell x = Check.of(TOWN);
        x.sell(0, 1, 30);
        return x;
    }

    private static void hoped(TillTheBell x, int n, int whole, int rest, int least) {
        Check.is("whole coins in " + n, x.hope(0, 0, n, 0), whole);
        Check.is("rest in " + n, x.hope(0, 0, n, 1), rest);
        Check.is("least in " + n, x.hope(0, 0, n, 2), least);
    }

    private static void threeOffers() {
        // Undoing brings -20 - 8 with the thing, so an offer brings itself less 38: -38, -8, 52.
        TillTheBell x = sold();
        Check.fill(x, 0, 3, 90, 0, 30);
        hoped(x, 1, 17, 1, 90);
        hoped(x, 2, 28, 8, 90);
        hoped(x, 3, 36, 16, 90);
        Check.is("nothing has changed", x.count(4), 1);
        // 2, 52: he takes the lesser one in the last minute alone.
        Check.fill(x, 0, 1, 40, 90);
        hoped(x, 1, 27, 0, 40);
        hoped(x, 2, 39, 2, 90);
    }

    private static void edges() {
        TillTheBell x = sold();
        Check.fill(x, 0, 0, 37);
        hoped(x, 1, 0, 0, -1);
        hoped(x, 6, 0, 0, -1);
        Check.fill(x, 0, 0, 38, 38);
        hoped(x, 1, 0, 0, 38);
        hoped(x, 6, 0, 0, 38);
        Check.fill(x, 0, 0, 100);
        hoped(x, 1, 62, 0, 100);
        hoped(x, 6, 62, 0, 100);
        Check.fill(x, 0, 1, 9999, 9999, 9999, 9999, 9999, 9999);
        hoped(x, 6, 9961, 0, 9999);
        Check.fill(x, 0, 1, 0, 0, 0, 0, 0, 9999);
        hoped(x, 1, 1660, 1, 9999);
        // 9961 (1 - (5 / 6)^6) = 9961 * 31031 / 46656
        hoped(x, 6, (int) (9961L * 31031 / 46656), (int) (9961L * 31031 % 46656), 9999);
        // What he waits for is 1 / 2: an offer that brings 0 is not taken with two minutes left, one that brings 1 is.
        Check.fill(x, 0, 0, 38, 39);
        hoped(x, 1, 0, 1, 38);
        hoped(x, 2, 0, 3, 39);
    }

    private static void aChain() {
        TillTheBell x = sold();
        x.sell(0, 2, 55);
        Check.fill(x, 0, 0, 100);
        // 100 less 30 that go back, 8 and 2 to the middle one, 2 to the last.
        hoped(x, 1, 58, 0, 100);
        Check.is("the later deed: its giver, 100 - 55 - 2", x.hope(1, 0, 1, 0), 43);
        x.undo(1, 1);
        hoped(x, 1, 62, 0, 100);
    }

    private static void wrong() {
        TillTheBell x = sold();
        Check.throwsA(NoSuchElementException.class, "no deed", () -> x.hope(1, 0, 1, 0));
        Check.throwsA(NoSuchElementException.class, "no deed", () -> x.hope(-1, 0, 9, 9));
        Check.throwsA(NoSuchElementException.class, "no tray", () -> x.hope(0, 4, 1, 0));
        Check.throwsA(NoSuchElementException.class, "no tray", () -> x.hope(0, -1, 9, 9));
        Check.throwsA(IllegalStateException.class, "missing", () -> x.hope(0, 0, 9, 9));
        Check.fill(x, 0, 3, 50);
        for (int n : new int[] {-1, 0, 7}) {
            Check.throwsA(IllegalArgumentException.class, "n " + n, () -> x.hope(0, 0, n, 0));
        }
        for (int what : new int[] {-1, 3}) {
            Check.throwsA(IllegalArgumentException.class, "what " + what, () -> x.hope(0, 0, 1, what));
        }
        Check.fill(x, 1, 3);
        Check.fill(x, 2, 3, 1, 2, 3, 4, 5, 6, 7);
        Check.throwsA(IllegalArgumentException.class, "no offers", () -> x.hope(0, 1, 1, 0));
        Check.throwsA(IllegalArgumentException.class, "seven offers", () -> x.hope(0, 2, 1, 0));
        Check.fill(x, 1, 3, 5, -1);
        Check.fill(x, 2, 3, 5, 10000);
        Check.throwsA(IllegalArgumentException.class, "below 0", () -> x.hope(0, 1, 1, 0));
        Check.throwsA(IllegalArgumentException.class, "above 9999", () -> x.hope(0, 2, 1, 0));
        Check.fill(x, 1, 3, 5, 1L << 32);
        Check.throwsA(IllegalArgumentException.class, "far above", () -> x.hope(0, 1, 1, 0));
        x.pass(9);
        Check.throwsA(IllegalStateException.class, "not open", () -> x.hope(0, 0, 1, 0));
        Check.throwsA(IllegalStateException.class, "not open, told ahead of n", () -> x.hope(0, 0, 9, 9));
    }
}
