import java.util.NoSuchElementException;

/** Promises 42 to 47: trays, images, counts. */
public final class TrayTest {
    private static final String TOWN = "people 2;coins 0 900;coins 1 900;thing 0 10 50;thing 1 30 20;share 40;bell 600;";

    public static void main(String[] args) {
        rows();
        cutting();
        pouring();
        images();
        imagesAcrossTowns();
        counts();
        Check.end("TrayTest");
    }

    private static void rows() {
        TillTheBell x = new TillTheBell();
        for (int t : new int[] {-1, 4}) {
            Check.throwsA(NoSuchElementException.class, "tray " + t, () -> x.tray(t, 9, 99));
            Check.throwsA(NoSuchElementException.class, "write " + t, () -> x.write(t, 0, 0));
            Check.throwsA(NoSuchElementException.class, "pour " + t, () -> x.pour(t));
        }
        Check.throwsA(IllegalArgumentException.class, "sort -1", () -> x.tray(0, -1, 1));
        Check.throwsA(IllegalArgumentException.class, "sort 4", () -> x.tray(0, 4, 1));
        Check.throwsA(IllegalArgumentException.class, "-1 places", () -> x.tray(0, 0, -1));
        Check.throwsA(IllegalArgumentException.class, "41 places", () -> x.tray(0, 0, 41));
        Check.throwsA(IllegalStateException.class, "missing still", () -> x.write(0, 0, 1));
        Check.throwsA(IllegalStateException.class, "missing, told ahead of place", () -> x.write(0, -1, 1));
        Check.throwsA(IllegalStateException.class, "pour: missing", () -> x.pour(3));
        x.tray(3, 3, 40);
        Check.is("the last place", x.write(3, 39, 5), 5);
        Check.throwsA(IndexOutOfBoundsException.class, "place 40", () -> x.write(3, 40, 5));
        Check.throwsA(IndexOutOfBoundsException.class, "place -1", () -> x.write(3, -1, 5));
        x.tray(3, 0, 0);
        Check.throwsA(IndexOutOfBoundsException.class, "no places", () -> x.write(3, 0, 5));
    }

    private static void cutting() {
        TillTheBell x = new TillTheBell();
        long big = 0x123456789abcdef0L;
        long[] due = {(byte) 0xf0, (short) 0xdef0, (int) 0x9abcdef0L, big};
        for (int sort = 0; sort < 4; sort++) {
            x.tray(sort, sort, 1);
            Check.is("sort " + sort, x.write(sort, 0, big), due[sort]);
            Check.is("-1 in sort " + sort, x.write(sort, 0, -1), -1);
        }
        Check.is("127", x.write(0, 0, 127), 127);
        Check.is("128", x.write(0, 0, 128), -128);
        Check.is("32768", x.write(1, 0, 32768), -32768);
        Check.is("2^31", x.write(2, 0, 1L << 31), Integer.MIN_VALUE);
        Check.is("the least long", x.write(3, 0, Long.MIN_VALUE), Long.MIN_VALUE);
        // A new row is of 0s: the undoing 0 is by the giver of deed 0.
        TillTheBell y = Check.of(TOWN);
        y.sell(0, 1, 0);
        Check.fill(y, 0, 0, 77);
        y.tray(0, 0, 1);
        Check.is("0s", y.perform(0), 1);
    }

    private static void pouring() {
        TillTheBell x = Check.of(TOWN);
        x.tray(0, 0, 3);
        Check.is("no deeds", x.pour(0), 0);
        x.sell(0, 1, 200);
        x.sell(1, 0, 7);
        x.sell(0, 0, 5);
        x.undo(1, 1);
        Check.fill(x, 0, 0, 9, 9, 9);
        Check.is("two stand", x.pour(0), 2);
        // 200 is -56 in 8 bits, told undoings judge it: no deed.
        Check.is("no deed by -56", x.judge(0, 1), 1);
        x.tray(1, 1, 1);
        Check.is("as many as it has places", x.pour(1), 1);
        x.tray(1, 1, 0);
        Check.is("no places", x.pour(1), 0);
        // As offers: 200 and 5, and the third as it was.
        Check.fill(x, 2, 1, 9, 9, 600);
        Check.is("poured", x.pour(2), 2);
        Check.is("the least taken of 200, 5, 600", x.hope(2, 2, 1, 2), leastTaken(x));
    }

    private static int leastTaken(TillTheBell x) {
        // Giver 1 of deed 2: an offer instead of 5, less 40 hundredths of 5 to the taker.
        Check.is("gain", x.gain(2, 1), 50 - 5 - 2);
        return 200;
    }

    private static void images() {
        TillTheBell x = Check.of(TOWN);
        for (int i : new int[] {-1, 3}) {
            Check.throwsA(NoSuchElementException.class, "image " + i, () -> x.image(i));
            Check.throwsA(NoSuchElementException.class, "restore " + i, () -> x.restore(i));
        }
        for (int i = 0; i < 3; i++) {
            int image = i;
            Check.throwsA(IllegalStateException.class, "none yet", () -> x.restore(image));
        }
        x.sell(0, 1, 20);
        x.pass(5);
        x.image(1);
        int[] then = new int[11];
        for (int what = 0; what < 11; what++) {
            then[what] = x.count(what);
        }
        x.sell(1, 0, 30);
        x.undo(0, 0);
        x.eat(1);
        x.share(1);
        x.pass(100);
        x.image(2);
        Check.fill(x, 0, 2, 5);
        Check.tell(x, "people 9;");
        Check.feed(x, "on the tape");
        x.restore(1);
        for (int what = 0; what < 11; what++) {
            Check.is("as it was: count " + what, x.count(what), then[what]);
        }
        Check.is("holder", x.holder(0), 1);
        Check.is("coins", x.person(0, 0), 920);
        Check.is("the deed stands", x.deed(0, 4), 1);
        Check.is("the fault stays", x.fault(0), 3);
        Check.is("the tape stays", x.count(11), 20);
        Check.is("trays stay", x.write(0, 0, 6), 6);
        x.undo(0, 1);
        x.restore(1);
        Check.is("an image can be used again", x.deed(0, 4), 1);
        x.restore(2);
        Check.is("the other one", x.count(5), 105);
        Check.is("its share", x.count(6), 1);
        Check.throwsA(IllegalStateException.class, "never made", () -> x.restore(0));
    }

    private static void imagesAcrossTowns() {
        TillTheBell x = new TillTheBell();
        x.image(0);
        Check.tell(x, TOWN);
        x.image(1);
        x.restore(0);
        Check.is("nobody again", x.count(1), 0);
        Check.is("no lines", x.count(0), 0);
        Check.is("share", x.count(6), 50);
        x.restore(1);
        Check.is("lines", x.count(0), 7);
        Check.is("worth", x.worth(0, 1), 50);
        Check.is("bell", x.count(7), 600);
        x.sell(0, 1, 3);
        x.image(1);
        x.undo(0, 0);
        x.restore(1);
        Check.is("made anew", x.count(4), 1);
    }

    private static void counts() {
        TillTheBell x = Check.of(TOWN + "eaten 1;");
        x.sell(0, 1, 9);
        x.sell(0, 0, 8);
        x.undo(1, 0);
        x.pass(2);
        Check.feed(x, "a");
        int[] due = {8, 2, 2, 2, 1, 2, 40, 600, 2, 1800, 1870, 20};
        for (int what = 0; what < due.length; what++) {
            Check.is("count " + what, x.count(what), due[what]);
        }
        for (int what : new int[] {-1, 12, Integer.MIN_VALUE, Integer.MAX_VALUE}) {
            Check.is("count " + what, x.count(what), -1);
        }
    }
}
