import java.util.NoSuchElementException;

/** Promises 21 to 30 and 37, and what "Terms" says of OPEN DEEDS, GAIN, SAFE and PLEDGE, each bound on both sides. */
public final class EdgesOfBellTest {
    private static final int[] FAR = {Integer.MIN_VALUE, -2, 40, Integer.MAX_VALUE};

    public static void main(String[] args) {
        p21Open();
        p22Gain();
        gainsAroundNothing();
        cutDebtsTurnGains();
        gainsOfAll();
        p24Pledge();
        p26Unravel();
        unravelledFirst();
        unravelledByWhom();
        p27Debt();
        p28SafePrice();
        safePricesOfShares();
        p29Longest();
        p30Bidder();
        p37Share();
        Check.end("EdgesOfBellTest");
    }

    /** One thing, worth so much to giver and taker, sold for a price. */
    private static TillTheBell sold(int toGiver, int toTaker, int price, int share) {
        TillTheBell x = Check.of("people 2;coins 1 100;thing 0 " + toGiver + " " + toTaker + ";share " + share + ";");
        Check.is("sold", x.sell(0, 1, price), 0);
        return x;
    }

    /** "OPEN are DEEDS that STAND and whose THINGS aren't EATEN (none, if the BELL HAS RUNG)." */
    private static void p21Open() {
        TillTheBell x = Check.of("people 2;coins 1 9;thing 0 1 2;thing 0 1 2;thing 0 1 2;bell 5;eaten 2;");
        Check.is("none yet", x.open(), 0);
        x.sell(0, 1, 1);
        x.sell(1, 1, 1);
        x.sell(0, 0, 0);
        Check.is("three", x.open(), 7);
        x.undo(2, 0);
        Check.is("one is undone", x.open(), 3);
        x.eat(1);
        Check.is("one is eaten", x.open(), 1);
        x.pass(4);
        Check.is("at 4", x.open(), 1);
        x.pass(1);
        Check.is("at 5", x.open(), 0);
        Check.is("they stand", x.count(4), 2);
        Check.is("nobody", new TillTheBell().open(), 0);
    }

    /** "GAIN of a PERSON by UNDOING an OPEN DEED of his; NONE for all others (as a number alone)." */
    private static void p22Gain() {
        TillTheBell x = Check.of("people 3;coins 1 100;thing 0 30 10;thing 0 30 10;thing 0 30 10;bell 5;share 0;");
        x.sell(0, 1, 20);
        x.sell(1, 1, 20);
        x.sell(2, 1, 20);
        Check.is("giver", x.gain(0, 0), 10);
        Check.is("taker", x.gain(0, 1), 10);
        Check.is("not his", x.gain(0, 2), -1);
        for (int d : new int[] {-1, 3, 31, 32, Integer.MIN_VALUE, Integer.MAX_VALUE}) {
            Check.throwsA(NoSuchElementException.class, "deed " + d, () -> x.gain(d, 0));
            Check.throwsA(NoSuchElementException.class, "pledge " + d, () -> x.pledge(d));
        }
        for (int p : new int[] {-1, 3, Integer.MIN_VALUE, Integer.MAX_VALUE}) {
            Check.throwsA(NoSuchElementException.class, "by " + p, () -> x.gain(0, p));
        }
        x.undo(1, 1);
        Check.is("undone", x.gain(1, 0), -1);
        Check.is("undone: no pledge", x.pledge(1), 0);
        x.eat(2);
        Check.is("eaten", x.gain(2, 1), -1);
        Check.is("eaten: no pledge", x.pledge(2), 0);
        x.pass(4);
        Check.is("at 4", x.gain(0, 0), 10);
        Check.is("pledge at 4", x.pledge(0), 10);
        x.pass(1);
        Check.is("at 5", x.gain(0, 0), -1);
        Check.is("pledge at 5", x.pledge(0), 0);
        Check.is("safe at 5", x.safe(), 0);
        Check.is("tempted at 5", x.tempted(), 0);
    }

    private static void around(TillTheBell x, int giver, int taker) {
        String what = "gains " + giver + ", " + taker;
        int most = Math.max(0, Math.max(giver, taker));
        Check.is(what + ": giver", x.gain(0, 0), giver);
        Check.is(what + ": taker", x.gain(0, 1), taker);
        Check.is(what + ": safe", x.safe(), most == 0 ? 1 : 0);
        Check.is(what + ": pledge", x.pledge(0), most);
        Check.is(what + ": tempted", x.tempted(), (giver > 0 ? 1 : 0) + (taker > 0 ? 2 : 0));
        Check.is(what + ": unravel", x.unravel(), most == 0 ? 0 : 1);
        Check.is(what + ": stands", x.count(4), most == 0 ? 1 : 0);
    }

    /** "SAFE is a DEED, if neither its GIVER nor its TAKER has a GAIN above 0" */
    private static void gainsAroundNothing() {
        for (int giver = -2; giver <= 2; giver++) {
            for (int taker = -2; taker <= 2; taker++) {
                around(sold(10 + giver, 10 - taker, 10, 0), giver, taker);
            }
        }
    }

    private static void cutDebtsTurnGains() {
        // The giver gains 1 and owes half of 1 or of 2.
        around(sold(11, 11, 10, 50), 1, -1);
        around(sold(11, 12, 10, 50), 0, -2);
        // The taker gains 1 and owes half of 1 or of 2.
        around(sold(9, 9, 10, 50), -1, 1);
        around(sold(8, 9, 10, 50), -2, 0);
        // Hundredths: 99 of 1 are none, 100 of 1 are 1.
        around(sold(11, 11, 10, 99), 1, -1);
        around(sold(11, 11, 10, 100), 0, -1);
    }

    /** bits up to the last person, the last deed */
    private static void gainsOfAll() {
        TillTheBell x = Check.of("people 6;coins 5 1;thing 4 0 0 0 0 9;thing 0;share 0;");
        for (int i = 0; i < 29; i++) {
            x.sell(1, 1 - i % 2, 0);
        }
        Check.is("nobody is tempted", x.tempted(), 0);
        Check.is("all are safe", x.safe(), (1 << 29) - 1);
        x.sell(0, 5, 1);
        Check.is("giver and taker", x.tempted(), 48);
        Check.is("the last one is not safe", x.safe(), (1 << 29) - 1);
        Check.is("its giver's", x.pledge(29), 8);
        x.share(100);
        Check.is("one undoing", x.unravel(), 1);
        Check.is("that one", x.deed(29, 4), 0);
        Check.is("29 stand", x.count(4), 29);
    }

    /** "PLEDGE: the least number of coins (0 and more), so that both would gain nothing" */
    private static void p24Pledge() {
        Check.is("the giver's is more", sold(15, 7, 10, 0).pledge(0), 5);
        Check.is("the taker's is more", sold(13, 2, 10, 0).pledge(0), 8);
        Check.is("the giver's alone", sold(12, 30, 10, 0).pledge(0), 2);
        Check.is("the taker's alone", sold(2, 9, 10, 0).pledge(0), 1);
        Check.is("none", sold(2, 30, 10, 0).pledge(0), 0);
        Check.is("999", sold(999, 0, 0, 50).pledge(0), 999);
    }

    /** "as long as some PERSON has a GAIN above 0 by UNDOING a DEED and can (his COINS, too)" */
    private static void p26Unravel() {
        for (int spent = 0; spent <= 2; spent++) {
            // The giver of deed 0 gains 1 and has 10, 9 or 8 coins to give 10 back; nobody else gains.
            TillTheBell x = Check.of("people 3;coins 1 10;thing 0 11 10;thing 2 9;share 0;");
            x.sell(0, 1, 10);
            x.sell(1, 0, spent);
            Check.is("the gain", x.gain(0, 0), 1);
            Check.is("spent " + spent, x.unravel(), spent == 0 ? 1 : 0);
            Check.is("tempted all the same", x.tempted(), spent == 0 ? 0 : 1);
        }
        TillTheBell eaten = sold(20, 0, 10, 0);
        eaten.eat(0);
        Check.is("eaten", eaten.unravel(), 0);
        TillTheBell rung = sold(20, 0, 10, 0);
        rung.pass(720);
        Check.is("rung", rung.unravel(), 0);
        Check.is("nobody", new TillTheBell().unravel(), 0);
        // Ten gifts of things of worth 1 and more, one undoing each; then none.
        TillTheBell ten = Check.of("people 2;" + "thing 0 1;".repeat(10));
        for (int t = 0; t < 10; t++) {
            ten.sell(t, 1, 0);
        }
        Check.is("ten undoings", ten.unravel(), 10);
        Check.is("none more", ten.unravel(), 0);
    }

    /** "that with the greatest GAIN, of like ones the lesser DEED" */
    private static void unravelledFirst() {
        int[][] worths = {{11, 11}, {11, 12}, {12, 11}, {12, 12}};
        int[] stands = {1, 0, 1, 1};
        for (int i = 0; i < worths.length; i++) {
            // The giver of both has 10 coins and needs 10 for either.
            TillTheBell x = Check.of("people 3;coins 1 20;thing 0 " + worths[i][0] + " 10;thing 0 " + worths[i][1] + " 10;thing 2 10;share 0;");
            x.sell(0, 1, 10);
            x.sell(1, 1, 10);
            x.sell(2, 0, 10);
            Check.is("one of both", x.unravel(), 1);
            Check.is("the other one stands", x.deed(stands[i], 4), 1);
            Check.is("the gift for 10 stands", x.deed(2, 4), 1);
        }
        // 0 would gain 20 by deed 0 and has no coins; 2 gains 5 by deed 1, and by that 0 has 10.
        TillTheBell y = Check.of("people 3;coins 1 10;coins 2 0;thing 0 30 10;thing 2 12 0 15;share 0;");
        y.sell(0, 1, 10);
        y.sell(1, 0, 10);
        Check.is("he can't yet", y.may(0, 0), 6);
        Check.is("gain of 0", y.gain(0, 0), 20);
        Check.is("gain of 2", y.gain(1, 2), 5);
        Check.is("one lets the other follow", y.unravel(), 2);
        Check.is("none stands", y.count(4), 0);
    }

    /** "then its GIVER": what 2 is owed tells who undid deed 0 */
    private static void unravelledByWhom() {
        int[][] due = {{29, 100, 99}, {30, 99, 100}, {31, 99, 100}};
        for (int[] d : due) {
            // By undoing deed 0 person 1 gains 9 and person 0 8, 9 or 10; either owes 1 to person 2.
            TillTheBell x = Check.of("people 3;coins 0 100;coins 1 100;coins 2 100;thing 0 " + d[0] + " 10 12;share 50;");
            x.sell(0, 1, 20);
            x.sell(0, 2, 10);
            Check.is("gain of 0", x.gain(0, 0), d[0] - 21);
            Check.is("gain of 1", x.gain(0, 1), 9);
            Check.is("one undoing", x.unravel(), 1);
            Check.is("both fell", x.count(4), 0);
            Check.is("coins of 0", x.person(0, 0), d[1]);
            Check.is("coins of 1", x.person(1, 0), d[2]);
            Check.is("coins of 2", x.person(2, 0), 101);
        }
    }

    /** "What a PERSON would OWE at most by UNDOING one of his OPEN DEEDS (what 0), the first such DEED (1; NONE without)." */
    private static void p27Debt() {
        TillTheBell x = Check.of("people 3;thing 0 0 10;thing 0 0 10;thing 0 0 12;share 50;bell 9;");
        owed(x, 0, 0, -1);
        x.sell(0, 1, 0);
        owed(x, 0, 5, 0);
        owed(x, 1, 0, 0);
        x.sell(1, 1, 0);
        owed(x, 0, 5, 0);
        x.sell(2, 1, 0);
        owed(x, 0, 6, 2);
        owed(x, 1, 0, 0);
        owed(x, 2, 0, -1);
        x.eat(2);
        owed(x, 0, 5, 0);
        x.undo(0, 1);
        owed(x, 0, 5, 1);
        owed(x, 1, 0, 1);
        x.pass(8);
        owed(x, 0, 5, 1);
        x.pass(1);
        owed(x, 0, 0, -1);
        for (int p : new int[] {-1, 3, Integer.MIN_VALUE, Integer.MAX_VALUE}) {
            Check.throwsA(NoSuchElementException.class, "debt of " + p, () -> x.debt(p, 0));
            Check.throwsA(NoSuchElementException.class, "debt of " + p + ", told first", () -> x.debt(p, 2));
        }
        for (int what : new int[] {-1, 2, Integer.MIN_VALUE, Integer.MAX_VALUE}) {
            Check.throwsA(IllegalArgumentException.class, "what " + what, () -> x.debt(0, what));
        }
    }

    private static void owed(TillTheBell x, int p, int most, int first) {
        Check.is("debt of " + p, x.debt(p, 0), most);
        Check.is("by which " + p, x.debt(p, 1), first);
    }

    private static void prices(int toGiver, int toTaker, int share, int least, int greatest) {
        TillTheBell x = Check.of("people 2;thing 0 " + toGiver + " " + toTaker + ";share " + share + ";");
        String what = toGiver + ", " + toTaker + ", share " + share;
        Check.is("least of " + what, x.safePrice(0, 1, 0), least);
        Check.is("greatest of " + what, x.safePrice(0, 1, 1), greatest);
    }

    /** "one from 0 to 999 at which a DEED of it to him, made now .., would be SAFE"; "NONE: there is none" */
    private static void p28SafePrice() {
        prices(0, 0, 0, 0, 0);
        prices(0, 1, 0, 0, 1);
        prices(1, 0, 0, -1, -1);
        prices(1, 1, 0, 1, 1);
        prices(0, 999, 0, 0, 999);
        prices(999, 999, 0, 999, 999);
        prices(999, 998, 0, -1, -1);
        prices(998, 999, 0, 998, 999);
        TillTheBell x = Check.of("people 3;thing 0 5 9 4;thing 1 5 9 4;");
        for (int thing : new int[] {-1, 2, Integer.MIN_VALUE, Integer.MAX_VALUE}) {
            Check.throwsA(NoSuchElementException.class, "thing " + thing, () -> x.safePrice(thing, 1, 0));
            Check.throwsA(NoSuchElementException.class, "thing " + thing + ", told first", () -> x.safePrice(thing, 1, 2));
        }
        for (int to : new int[] {-1, 3, Integer.MIN_VALUE, Integer.MAX_VALUE}) {
            Check.throwsA(NoSuchElementException.class, "to " + to, () -> x.safePrice(0, to, 0));
            Check.throwsA(NoSuchElementException.class, "to " + to + ", told first", () -> x.safePrice(0, to, 2));
        }
        Check.throwsA(IllegalStateException.class, "he holds it", () -> x.safePrice(0, 0, 0));
        Check.throwsA(IllegalStateException.class, "he holds it, told ahead of what", () -> x.safePrice(1, 1, 2));
        for (int what : new int[] {-1, 2, Integer.MIN_VALUE, Integer.MAX_VALUE}) {
            Check.throwsA(IllegalArgumentException.class, "what " + what, () -> x.safePrice(0, 2, what));
        }
        x.share(0);
        x.sell(0, 1, 0);
        Check.is("the holder is another one now", x.safePrice(0, 0, 0), -1);
        Check.throwsA(IllegalStateException.class, "he holds it now", () -> x.safePrice(0, 1, 0));
        Check.is("deeds ahead don't matter", x.safePrice(0, 2, 1), -1);
    }

    /** What the other one is owed, cut, makes more prices safe: each is tried as a deed of a town that is rich enough. */
    private static void safePricesOfShares() {
        int[][] towns = {{3, 8, 50}, {8, 3, 50}, {8, 3, 100}, {3, 8, 100}, {0, 0, 100}, {5, 5, 1}, {5, 5, 99}, {5, 105, 99}, {100, 200, 34}, {200, 198, 67}, {0, 999, 1},
            {10, 9, 100}, {9, 10, 100}, {500, 600, 90}};
        for (int[] t : towns) {
            int least = -1;
            int greatest = -1;
            for (int price = 0; price <= 999; price++) {
                int giver = t[0] - price - t[2] * Math.max(0, t[1] - price) / 100;
                int taker = price - t[1] - t[2] * Math.max(0, price - t[0]) / 100;
                if (giver <= 0 && taker <= 0) {
                    least = least == -1 ? price : least;
                    greatest = price;
                }
            }
            prices(t[0], t[1], t[2], least, greatest);
            atTheEdge(t, least - 1, false);
            atTheEdge(t, least, least >= 0);
            atTheEdge(t, greatest, greatest >= 0);
            atTheEdge(t, greatest + 1, false);
        }
    }

    private static void atTheEdge(int[] t, int price, boolean safe) {
        if (price >= 0 && price <= 999) {
            TillTheBell x = Check.of("people 2;coins 1 999;thing 0 " + t[0] + " " + t[1] + ";share " + t[2] + ";");
            x.sell(0, 1, price);
            Check.is(t[0] + ", " + t[1] + ", " + t[2] + " for " + price, x.safe(), safe ? 1 : 0);
        }
    }

    /** "The THING with the longest chain of DEEDS that STAND, the first; NONE: none does." */
    private static void p29Longest() {
        TillTheBell x = Check.of("people 2;" + "thing 0;".repeat(10));
        Check.is("none", x.longest(), -1);
        x.sell(9, 1, 0);
        Check.is("the last", x.longest(), 9);
        x.sell(4, 1, 0);
        Check.is("like ones: the first", x.longest(), 4);
        x.sell(9, 0, 0);
        Check.is("two", x.longest(), 9);
        x.sell(0, 1, 0);
        x.sell(0, 0, 0);
        Check.is("two and two", x.longest(), 0);
        x.undo(3, 0);
        Check.is("one fell", x.longest(), 9);
        x.undo(0, 0);
        x.undo(1, 0);
        Check.is("none stands", x.longest(), -1);
        x.sell(4, 1, 0);
        x.eat(4);
        x.pass(999);
        Check.is("eaten, rung, and it stands", x.longest(), 4);
        Check.is("nobody", new TillTheBell().longest(), -1);
    }

    /** "Of those who don't HOLD a THING and have as many COINS as it is worth to them that one to whom it is worth most, the first; NONE" */
    private static void p30Bidder() {
        for (int coins = 9; coins <= 11; coins++) {
            TillTheBell x = Check.of("people 2;coins 1 " + coins + ";thing 0 99 10;");
            Check.is("10 with " + coins, x.bidder(0), coins >= 10 ? 1 : -1);
        }
        Check.is("0 with 0", Check.of("people 2;thing 0 99 0;").bidder(0), 1);
        Check.is("1 with 0", Check.of("people 2;thing 0 99 1;").bidder(0), -1);
        Check.is("the holder is none", Check.of("people 1;coins 0 99;thing 0 1;").bidder(0), -1);
        Check.is("like ones: the first", Check.of("people 6;coins 2 9;coins 4 9;coins 5 9;thing 1 0 0 9 0 9 9;").bidder(0), 2);
        Check.is("most", Check.of("people 6;coins 2 9;coins 4 9;coins 5 9;thing 1 0 0 8 0 9 9;").bidder(0), 4);
        Check.is("the last", Check.of("people 6;coins 2 9;coins 4 9;coins 5 9;thing 1 0 0 9 0 10 9;worth 0 2 8;").bidder(0), 5);
        TillTheBell below = Check.of("people 3;coins 1 9;thing 0;thing 2;share 0;");
        below.sell(0, 1, 9);
        below.sell(1, 0, 9);
        below.undo(0, 1);
        below.sell(0, 1, 0);
        Check.is("coins below 0 aren't as many as 0", below.bidder(0), 2);
        TillTheBell x = Check.of("people 2;" + "thing 0;".repeat(10));
        Check.is("the last thing", x.bidder(9), 1);
        for (int far : FAR) {
            Check.throwsA(NoSuchElementException.class, "thing " + far, () -> x.bidder(far));
        }
        Check.throwsA(NoSuchElementException.class, "thing -1", () -> x.bidder(-1));
        Check.throwsA(NoSuchElementException.class, "thing 10", () -> x.bidder(10));
    }

    /** "Another share: the one before. IllegalArgumentException: it isn't 0 to 100." */
    private static void p37Share() {
        TillTheBell x = new TillTheBell();
        Check.is("50 at first", x.share(0), 50);
        Check.is("0", x.count(6), 0);
        for (int wrong : new int[] {-1, 101, Integer.MIN_VALUE, Integer.MAX_VALUE}) {
            Check.throwsA(IllegalArgumentException.class, "share " + wrong, () -> x.share(wrong));
            Check.is("0 still", x.count(6), 0);
        }
        Check.is("the one before", x.share(100), 0);
        Check.is("100", x.count(6), 100);
        Check.is("the one before", x.share(100), 100);
        Check.is("the one before", x.share(1), 100);
        TillTheBell y = sold(5, 9, 0, 100);
        Check.is("all of 9", y.owes(0, 0, 1), 9);
        y.share(0);
        Check.is("none of 9", y.owes(0, 0, 1), 0);
    }
}
