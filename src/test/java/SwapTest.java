/** Promises 39 to 41: swaps by twos and threes, misplaced things. */
public final class SwapTest {
    public static void main(String[] args) {
        twos();
        threes();
        misplaced();
        Check.end("SwapTest");
    }

    private static void twos() {
        TillTheBell x = Check.of("people 3;thing 0 1 5 9;thing 1 9 1 5;thing 1 1 1;thing 0 2 1 9;thing 2 8 7 3;");
        // Things of 0: 0 (1), 3 (2); of 1: 1 (1), 2 (1); of 2: 4 (3).
        // 0 and 1 both gain; 0 and 4: 9 above 3, 8 above 1; 1 and 3: 1 isn't above 1; 1 and 4: 5 above 3, 7 above 1; 3 and 4.
        int[] all = {1, 4, 104, 304};
        Check.is("how many", x.swaps(-1), all.length);
        for (int k = 0; k < all.length; k++) {
            Check.is("swap " + k, x.swaps(k), all[k]);
        }
        Check.is("not so many", x.swaps(4), -1);
        Check.is("k -2", x.swaps(-2), -1);
        Check.is("k far off", x.swaps(Integer.MAX_VALUE), -1);
        x.eat(1);
        Check.is("not with eaten ones", x.swaps(-1), 2);
        Check.is("first", x.swaps(0), 4);
        Check.is("second", x.swaps(1), 304);
        x.sell(4, 0, 0);
        Check.is("not with himself", x.swaps(-1), 0);
        Check.is("none", x.swaps(0), -1);
    }

    private static void threes() {
        TillTheBell x = Check.of("people 3;thing 0 1 5 9;thing 1 9 1 5;thing 2 5 9 1;thing 2 9 9 9;");
        Check.is("how many", x.threes(-1), 2);
        Check.is("0 1 2", x.threes(0), 102);
        Check.is("0 2 1", x.threes(1), 201);
        Check.is("not so many", x.threes(2), -1);
        Check.is("k -2", x.threes(-2), -1);
        // The ring 1, 3, 2 of others: a ring begins with its least thing.
        TillTheBell y = Check.of("people 4;thing 3;thing 1 0 1 0;thing 2 0 2 1;thing 0 1 0 2;worth 1 0 2;");
        Check.is("one", y.threes(-1), 1);
        Check.is("1 likes 2, 2 likes 3, 3 likes 1", y.threes(0), 10203);
        y.eat(3);
        Check.is("not with eaten ones", y.threes(-1), 0);
        TillTheBell z = Check.of("people 2;thing 0 1 9;thing 1 9 1;thing 0 5 5;");
        Check.is("three unlike people", z.threes(-1), 0);
    }

    private static void misplaced() {
        TillTheBell x = Check.of("people 3;thing 0 5 5 5;thing 1 0 4 5;thing 2 9 0 0;thing 2 1 1 1;");
        Check.is("whose holder has less", x.misplaced(), 6);
        x.sell(1, 2, 0);
        Check.is("at its place", x.misplaced(), 4);
        x.eat(2);
        Check.is("eaten or not", x.misplaced(), 4);
        Check.is("nobody", new TillTheBell().misplaced(), 0);
    }
}
