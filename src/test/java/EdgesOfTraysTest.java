import java.util.NoSuchElementException;

/** Promises 39 to 47: swaps, trays, images, counts, each bound on both sides. */
public final class EdgesOfTraysTest {
    private static final int[] FAR = {Integer.MIN_VALUE, -2, 40, Integer.MAX_VALUE};

    public static void main(String[] args) {
        p39Swaps();
        swapsOfBounds();
        p40Threes();
        threesOfBounds();
        p41Misplaced();
        p42Tray();
        aRowOfNoughts();
        p43Write();
        cutToItsSort();
        p44Pour();
        pouredAndCut();
        p45Image();
        p46Restore();
        threeImages();
        p47Count();
        Check.end("EdgesOfTraysTest");
    }

    /** "worth more to the other one than the other's is to him": equal is not more, on either side */
    private static void p39Swaps() {
        for (int a = -1; a <= 1; a++) {
            for (int b = -1; b <= 1; b++) {
                TillTheBell x = Check.of("people 2;thing 0 5 " + (7 + b) + ";thing 1 " + (5 + a) + " 7;");
                boolean both = a > 0 && b > 0;
                Check.is("how many, " + a + ", " + b, x.swaps(-1), both ? 1 : 0);
                Check.is("the first, " + a + ", " + b, x.swaps(0), both ? 1 : -1);
            }
        }
        TillTheBell x = Check.of("people 2;thing 0 1 9;thing 1 9 1;thing 0 1 9;thing 1 9 1;");
        int[] due = {1, 3, 102, 203};
        Check.is("four", x.swaps(-1), 4);
        for (int k = 0; k < 4; k++) {
            Check.is("swap " + k, x.swaps(k), due[k]);
        }
        for (int k : new int[] {4, 5, -2, Integer.MIN_VALUE, Integer.MAX_VALUE}) {
            Check.is("swap " + k, x.swaps(k), -1);
        }
        x.eat(0);
        Check.is("without the eaten one", x.swaps(-1), 2);
        x.eat(3);
        Check.is("without both", x.swaps(-1), 1);
        Check.is("1 and 2", x.swaps(0), 102);
        Check.is("not so many", x.swaps(1), -1);
    }

    private static void swapsOfBounds() {
        TillTheBell none = new TillTheBell();
        Check.is("nobody: how many", none.swaps(-1), 0);
        Check.is("nobody: the first", none.swaps(0), -1);
        Check.is("nobody: threes", none.threes(-1), 0);
        Check.is("nobody: the first of threes", none.threes(0), -1);
        Check.is("nobody: misplaced", none.misplaced(), 0);
        TillTheBell x = Check.of("people 6;" + "thing 1 0 1;".repeat(8) + "thing 4 0 0 0 0 1 9;thing 5 0 0 0 0 9 1;");
        Check.is("the last two", x.swaps(0), 809);
        Check.is("alone", x.swaps(-1), 1);
        // All of 0's against all of 1's.
        StringBuilder text = new StringBuilder("people 2;");
        for (int t = 0; t < 10; t++) {
            text.append("thing ").append(t % 2).append(t % 2 == 0 ? " 1 9;" : " 9 1;");
        }
        TillTheBell y = Check.of(text.toString());
        Check.is("25", y.swaps(-1), 25);
        Check.is("the first", y.swaps(0), 1);
        Check.is("the last", y.swaps(24), 809);
        Check.is("behind it", y.swaps(25), -1);
    }

    /** "each would rather have the next one's (a j, b k, c i) than his own": equal is not rather */
    private static void p40Threes() {
        for (int code = 0; code < 8; code++) {
            int a = code & 1;
            int b = code >> 1 & 1;
            int c = code >> 2;
            // 0 holds 0 and looks at 1, 1 holds 1 and looks at 2, 2 holds 2 and looks at 0.
            TillTheBell x = Check.of("people 3;thing 0 5 0 " + (5 + c) + ";thing 1 " + (5 + a) + " 5 0;thing 2 0 " + (5 + b) + " 5;");
            Check.is("how many, " + code, x.threes(-1), code == 7 ? 1 : 0);
            Check.is("the first, " + code, x.threes(0), code == 7 ? 102 : -1);
        }
        TillTheBell x = Check.of("people 3;thing 0 1 5 9;thing 1 9 1 5;thing 2 5 9 1;");
        Check.is("both ways", x.threes(-1), 2);
        Check.is("0 1 2", x.threes(0), 102);
        Check.is("0 2 1", x.threes(1), 201);
        for (int k : new int[] {2, 3, -2, Integer.MIN_VALUE, Integer.MAX_VALUE}) {
            Check.is("threes " + k, x.threes(k), -1);
        }
        for (int t = 0; t < 3; t++) {
            TillTheBell y = Check.of("people 3;thing 0 1 5 9;thing 1 9 1 5;thing 2 5 9 1;");
            y.eat(t);
            Check.is(t + " is eaten", y.threes(-1), 0);
        }
    }

    /** "three unlike PEOPLE"; "i the least of the three, by i, j, k" */
    private static void threesOfBounds() {
        String rest = "thing 5;".repeat(7);
        TillTheBell x = Check.of("people 6;" + rest + "thing 3 0 0 0 1 0 2;thing 4 0 0 0 2 1;thing 5 0 0 0 0 2 1;");
        Check.is("7 8 9", x.threes(0), 70809);
        Check.is("alone", x.threes(-1), 1);
        TillTheBell y = Check.of("people 6;" + rest + "thing 3 0 0 0 1 2 0;thing 4 0 0 0 0 1 2;thing 5 0 0 0 2 0 1;");
        Check.is("7 9 8", y.threes(0), 70908);
        Check.is("alone", y.threes(-1), 1);
        Check.is("not so many", y.threes(1), -1);
        // Two hold all three: 0 likes 1's, 1 likes 0's, and they would like their own second ones, too.
        TillTheBell z = Check.of("people 3;thing 0 1 9;thing 1 9 1;thing 0 5 5;thing 1 5 5;");
        Check.is("two people only", z.threes(-1), 0);
        // The ring 0 1 2 and the ring 0 1 3, by the last.
        TillTheBell w = Check.of("people 3;thing 0 1 0 9;thing 1 2 1 0;thing 2 0 2 1;thing 2 0 2 1;");
        Check.is("two rings", w.threes(-1), 2);
        Check.is("0 1 2", w.threes(0), 102);
        Check.is("0 1 3", w.threes(1), 103);
    }

    /** "THINGS (bits) whose HOLDER has less WORTH by them than some other one." */
    private static void p41Misplaced() {
        for (int more = -1; more <= 1; more++) {
            for (int p = 1; p < 6; p++) {
                TillTheBell x = Check.of("people 6;thing 0 5;worth 0 " + p + " " + (5 + more) + ";");
                Check.is(more + " more to " + p, x.misplaced(), more > 0 ? 1 : 0);
            }
        }
        Check.is("the last one", Check.of("people 2;" + "thing 0;".repeat(9) + "thing 1 1;").misplaced(), 512);
        Check.is("the first one", Check.of("people 2;thing 1 1;" + "thing 0;".repeat(9)).misplaced(), 1);
        Check.is("alone", Check.of("people 1;thing 0;").misplaced(), 0);
        String full = "thing 0 9 8 8 8 8 9;".repeat(9);
        Check.is("none of ten", Check.of("people 6;" + full + "thing 5 9 8 8 8 8 9;").misplaced(), 0);
        Check.is("the last of ten", Check.of("people 6;" + full + "thing 5 9 8 8 8 8 8;").misplaced(), 512);
    }

    /** "NoSuchElementException: no such TRAY; IllegalArgumentException: no such sort, or not so many." */
    private static void p42Tray() {
        TillTheBell x = new TillTheBell();
        for (int t : new int[] {-1, 4, Integer.MIN_VALUE, Integer.MAX_VALUE}) {
            Check.throwsA(NoSuchElementException.class, "tray " + t, () -> x.tray(t, 0, 1));
            Check.throwsA(NoSuchElementException.class, "tray " + t + ", told first", () -> x.tray(t, 4, 41));
            Check.throwsA(NoSuchElementException.class, "write " + t, () -> x.write(t, -1, 1));
            Check.throwsA(NoSuchElementException.class, "pour " + t, () -> x.pour(t));
        }
        for (int s : new int[] {-1, 4, Integer.MIN_VALUE, Integer.MAX_VALUE}) {
            Check.throwsA(IllegalArgumentException.class, "sort " + s, () -> x.tray(0, s, 1));
        }
        for (int many : new int[] {-1, 41, Integer.MIN_VALUE, Integer.MAX_VALUE}) {
            Check.throwsA(IllegalArgumentException.class, many + " places", () -> x.tray(0, 0, many));
        }
        Check.throwsA(IllegalStateException.class, "missing still", () -> x.pour(0));
        for (int t = 0; t < 4; t++) {
            for (int s = 0; s < 4; s++) {
                sized(x, t, s, 0);
                sized(x, t, s, 1);
                sized(x, t, s, 40);
            }
        }
    }

    private static void sized(TillTheBell x, int t, int s, int many) {
        x.tray(t, s, many);
        if (many > 0) {
            Check.is("the last place of " + many, x.write(t, many - 1, 7), 7);
        }
        Check.throwsA(IndexOutOfBoundsException.class, "behind " + many, () -> x.write(t, many, 7));
        Check.throwsA(IndexOutOfBoundsException.class, "ahead of all", () -> x.write(t, -1, 7));
    }

    /** "A TRAY is a row of so many 0s." */
    private static void aRowOfNoughts() {
        TillTheBell x = Check.of("people 2;thing 0;");
        x.sell(0, 1, 0);
        Check.fill(x, 0, 3, 9, 9, 9, 9, 9, 9);
        x.tray(0, 3, 6);
        Check.is("0s: all bring nothing", x.hope(0, 0, 1, 0), 0);
        Check.is("0s: the rest", x.hope(0, 0, 1, 1), 0);
        x.tray(0, 3, 2);
        Check.fill(x, 0, 3, 8, 8);
        x.tray(0, 0, 4);
        Check.is("another size, another sort", x.hope(0, 0, 1, 1), 0);
        Check.is("the first undoing, told by 0", x.judge(0, 0), 1);
        Check.throwsA(IllegalArgumentException.class, "a wrong sort", () -> x.tray(0, 4, 1));
        Check.throwsA(IndexOutOfBoundsException.class, "it has four places still", () -> x.write(0, 4, 1));
        Check.is("of 8 bits still", x.write(0, 3, 300), 44);
    }

    /** "IllegalStateException: it is MISSING; IndexOutOfBoundsException: it has no such place." */
    private static void p43Write() {
        TillTheBell x = new TillTheBell();
        for (int t = 0; t < 4; t++) {
            int tray = t;
            Check.throwsA(IllegalStateException.class, "missing " + t, () -> x.write(tray, 0, 1));
            Check.throwsA(IllegalStateException.class, "missing " + t + ", told ahead of place", () -> x.write(tray, 40, 1));
        }
        x.tray(1, 2, 3);
        for (int at = 0; at < 3; at++) {
            Check.is("place " + at, x.write(1, at, 100 + at), 100 + at);
        }
        for (int at : new int[] {-1, 3, 39, 40, Integer.MIN_VALUE, Integer.MAX_VALUE}) {
            Check.throwsA(IndexOutOfBoundsException.class, "place " + at, () -> x.write(1, at, 1));
        }
        Check.throwsA(IllegalStateException.class, "its neighbour is missing", () -> x.write(2, 0, 1));
    }

    /** "A number comes to a place of a TRAY, cut to its sort: as it is there." */
    private static void cutToItsSort() {
        TillTheBell x = new TillTheBell();
        for (int sort = 0; sort < 4; sort++) {
            x.tray(sort, sort, 1);
            int bits = 8 << sort;
            long top = Long.MAX_VALUE >>> 64 - bits;
            Check.is("the greatest of " + bits, x.write(sort, 0, top), top);
            Check.is("one more", x.write(sort, 0, top + 1), -top - 1);
            Check.is("the least", x.write(sort, 0, -top - 1), -top - 1);
            Check.is("one less", x.write(sort, 0, -top - 2), top);
            Check.is("-1", x.write(sort, 0, -1), -1);
            Check.is("0", x.write(sort, 0, 0), 0);
            Check.is("all bits but the last", x.write(sort, 0, 2 * top), -2);
        }
        Check.is("256 in 8", x.write(0, 0, 256), 0);
        Check.is("255 in 8", x.write(0, 0, 255), -1);
        Check.is("65536 in 16", x.write(1, 0, 65536), 0);
        Check.is("2^32 in 32", x.write(2, 0, 1L << 32), 0);
        Check.is("2^32 in 64", x.write(3, 0, 1L << 32), 1L << 32);
    }

    private static TillTheBell sold(int many) {
        TillTheBell x = Check.of("people 2;coins 0 9999;coins 1 9999;thing 0;thing 0;share 0;bell 9;");
        for (int i = 0; i < many; i++) {
            x.sell(0, 1 - i % 2, 1 + i);
        }
        return x;
    }

    /** "PRICES of DEEDS that STAND come into a TRAY from its first place on .., as many as it has places: how many." */
    private static void p44Pour() {
        TillTheBell x = sold(3);
        int[] due = {0, 1, 2, 3, 3, 3};
        for (int places = 0; places <= 5; places++) {
            x.tray(0, 1, places);
            Check.is(places + " places", x.pour(0), due[places]);
        }
        // A gift of no worth: offers bring themselves. 1, 2, 3 and what was there behind them.
        x.sell(1, 1, 0);
        Check.fill(x, 0, 1, 50, 50, 50, 50, 50, 50);
        Check.is("four stand", x.pour(0), 4);
        Check.is("1, 2, 3, 0, 50, 50", 6 * x.hope(3, 0, 1, 0) + x.hope(3, 0, 1, 1), 106);
        x.undo(1, 0);
        Check.fill(x, 0, 1, 50, 50, 50, 50, 50, 50);
        Check.is("two stand", x.pour(0), 2);
        Check.is("1, 0, 50, 50, 50, 50", 6 * x.hope(3, 0, 1, 0) + x.hope(3, 0, 1, 1), 201);
        x.pass(9);
        Check.is("behind the bell, too", x.pour(0), 2);
        TillTheBell full = sold(30);
        full.tray(3, 0, 40);
        Check.is("thirty into forty", full.pour(3), 30);
        full.tray(3, 0, 30);
        Check.is("thirty into thirty", full.pour(3), 30);
        full.tray(3, 0, 29);
        Check.is("thirty into 29", full.pour(3), 29);
        for (int t = 0; t < 3; t++) {
            int tray = t;
            Check.throwsA(IllegalStateException.class, "missing " + t, () -> full.pour(tray));
        }
        for (int far : FAR) {
            Check.throwsA(NoSuchElementException.class, "tray " + far, () -> full.pour(far));
        }
    }

    /** "cut to its sort": 384 is -128 in 8 bits and 384 in 16; 9999 is 15 in 8 bits */
    private static void pouredAndCut() {
        TillTheBell x = Check.of("people 3;coins 1 9999;coins 2 9999;thing 0;thing 0;thing 0;share 0;");
        x.sell(0, 1, 9999);
        x.sell(1, 2, 384);
        x.sell(2, 1, 0);
        x.tray(0, 0, 1);
        x.pour(0);
        Check.is("9999 in 8 bits", x.hope(2, 0, 1, 0), 15);
        x.tray(0, 0, 2);
        x.pour(0);
        Check.throwsA(IllegalArgumentException.class, "-128 is no offer", () -> x.hope(2, 0, 1, 0));
        for (int sort = 1; sort <= 3; sort++) {
            x.tray(0, sort, 3);
            x.pour(0);
            Check.is("in sort " + sort, 3 * x.hope(2, 0, 1, 0) + x.hope(2, 0, 1, 1), 9999 + 384);
        }
    }

    /** "An IMAGE is made. NoSuchElementException: no such one." */
    private static void p45Image() {
        TillTheBell x = sold(2);
        for (int i : new int[] {-1, 3, Integer.MIN_VALUE, Integer.MAX_VALUE}) {
            Check.throwsA(NoSuchElementException.class, "image " + i, () -> x.image(i));
            Check.throwsA(NoSuchElementException.class, "restore " + i, () -> x.restore(i));
        }
        for (int i = 0; i < 3; i++) {
            int image = i;
            Check.throwsA(IllegalStateException.class, "none was made", () -> x.restore(image));
            x.image(i);
            x.restore(i);
            Check.is("as it was", x.count(3), 2);
        }
    }

    /** "All is as in an IMAGE."; "all but the tape, the FAULT and TRAYS, as it was" */
    private static void p46Restore() {
        TillTheBell x = Check.of("people 3;coins 0 70;coins 1 80;thing 0 5 9 2;thing 1 8 6;share 20;bell 90;eaten 1;");
        x.pass(4);
        x.sell(0, 1, 7);
        x.pass(5);
        x.sell(0, 2, 0);
        x.undo(1, 2);
        x.image(2);
        for (int i = 0; i < 3; i++) {
            spoil(x, i);
            x.restore(2);
            asInTheImage(x);
        }
    }

    private static void spoil(TillTheBell x, int how) {
        if (how == 0) {
            x.undo(0, 0);
            x.sell(0, 1, 60);
            x.eat(0);
            x.share(99);
            x.pass(50);
        } else if (how == 1) {
            Check.tell(x, "people 6;coins 0 5;coins 3 5;thing 5 3;thing 4 9 9 9;");
            x.pass(77);
            x.sell(1, 3, 5);
            x.sell(0, 0, 4);
        } else {
            Check.tell(x, "");
            Check.tell(x, "people ?");
            Check.feed(x, "tape");
            Check.fill(x, 1, 0, 5, 6);
        }
        if (how < 2) {
            Check.is("no fault", x.fault(0), 0);
        }
    }

    private static void asInTheImage(TillTheBell x) {
        int[] due = {8, 3, 2, 2, 1, 9, 20, 90, 2, 150, 165};
        for (int what = 0; what < due.length; what++) {
            Check.is("as it was: count " + what, x.count(what), due[what]);
        }
        int[][] deeds = {{0, 0, 1, 7, 1, 4, 2, 2}, {0, 1, 2, 0, 0, 9, 0, 2}};
        for (int what = 0; what < 8; what++) {
            Check.is("as it was: deed 0, " + what, x.deed(0, what), deeds[0][what]);
            Check.is("as it was: deed 1, " + what, x.deed(1, what), deeds[1][what]);
        }
        int[] coins = {77, 73, 0};
        int[][] worths = {{5, 9, 2}, {8, 6, 0}};
        for (int p = 0; p < 3; p++) {
            Check.is("as it was: coins " + p, x.person(p, 0), coins[p]);
            Check.is("as it was: worth of 0", x.worth(0, p), worths[0][p]);
            Check.is("as it was: worth of 1", x.worth(1, p), worths[1][p]);
        }
        Check.is("as it was: holder of 0", x.holder(0), 1);
        Check.is("as it was: holder of 1", x.holder(1), 1);
        if (x.count(11) > 0) {
            Check.is("the tape stays", x.count(11), 20);
            Check.is("the fault stays", x.fault(0), 1);
            Check.is("its place stays", x.fault(1), 7);
            Check.is("trays stay", x.judge(1, 1), 1);
            Check.throwsA(IndexOutOfBoundsException.class, "and their places", () -> x.write(1, 2, 0));
        }
    }

    /** Three of them, each by itself; made anew, an image is another one. */
    private static void threeImages() {
        TillTheBell x = sold(0);
        for (int i = 0; i < 3; i++) {
            x.pass(1);
            x.sell(0, 1 - i % 2, 1);
            x.image(i);
        }
        for (int i = 2; i >= 0; i--) {
            x.restore(i);
            Check.is("minute of " + i, x.count(5), i + 1);
            Check.is("deeds of " + i, x.count(3), i + 1);
        }
        x.restore(2);
        x.image(0);
        x.restore(1);
        Check.is("deeds of 1", x.count(3), 2);
        x.restore(0);
        Check.is("made anew", x.count(3), 3);
        Check.tell(x, "people 1;");
        x.restore(1);
        Check.is("a town told since changes no image", x.count(3), 2);
        TillTheBell y = new TillTheBell();
        y.image(0);
        Check.throwsA(IllegalStateException.class, "the others were not made", () -> y.restore(1));
        Check.tell(y, "people 2;");
        y.restore(0);
        Check.is("nobody again", y.count(1), 0);
    }

    /** "..; NONE for others." */
    private static void p47Count() {
        TillTheBell x = Check.of("people 3;coins 0 5;coins 1 7;thing 0 2 9;thing 1 1 1;thing 1 0 4;share 61;bell 77;eaten 0;eaten 2;");
        x.sell(1, 0, 5);
        x.pass(3);
        Check.feed(x, "some bytes, then more of them");
        int[] due = {10, 3, 3, 1, 1, 3, 61, 77, 5, 12, 19, 40};
        for (int what = 0; what < 12; what++) {
            Check.is("count " + what, x.count(what), due[what]);
        }
        x.undo(0, 1);
        Check.is("deeds", x.count(3), 1);
        Check.is("none stands", x.count(4), 0);
        for (int what : new int[] {-1, -2, 12, 13, Integer.MIN_VALUE, Integer.MAX_VALUE}) {
            Check.is("count " + what, x.count(what), -1);
        }
    }
}
