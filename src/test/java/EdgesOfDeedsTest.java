import java.util.NoSuchElementException;

/** Promises 11 to 20, and why a DEED or an UNDOING can't be, each bound on both sides. */
public final class EdgesOfDeedsTest {
    public static void main(String[] args) {
        p11SellOneAndTwo();
        p11SellThreeToSix();
        p11TheLeastReason();
        p12Deed();
        worthOfADeed();
        p13May();
        p13TheLeastReason();
        behindIt();
        p14Undo();
        thirtyFall();
        p15Falls();
        p16Owes();
        eachCut();
        p17Chain();
        p18Judge();
        judgedReasons();
        numbersOfTrays();
        p19Perform();
        p20Day();
        drawnDays();
        Check.end("EdgesOfDeedsTest");
    }

    /** "A DEED can't be made: 1 no such THING, PERSON, or he is the HOLDER; 2 the PRICE isn't 0 to 9999" */
    private static void p11SellOneAndTwo() {
        TillTheBell x = Check.of("people 6;coins 0 9999;coins 5 9999;" + "thing 1;".repeat(10));
        for (int thing : new int[] {-1, 10, 11, Integer.MIN_VALUE, Integer.MAX_VALUE}) {
            Check.is("thing " + thing, x.sell(thing, 0, 0), -11);
        }
        for (int to : new int[] {-1, 6, 7, Integer.MIN_VALUE, Integer.MAX_VALUE}) {
            Check.is("to " + to, x.sell(0, to, 0), -11);
        }
        Check.is("to the holder", x.sell(0, 1, 0), -11);
        for (int price : new int[] {-1, 10000, 10001, Integer.MIN_VALUE, Integer.MAX_VALUE}) {
            Check.is("price " + price, x.sell(0, 0, price), -12);
        }
        Check.is("none yet", x.count(3), 0);
        Check.is("the first thing to the first, a gift", x.sell(0, 0, 0), 0);
        Check.is("the last thing to the last, for 9999", x.sell(9, 5, 9999), 1);
        Check.is("coins of the giver", x.person(1, 0), 9999);
        Check.is("coins of the taker", x.person(5, 0), 0);
        Check.is("coins of who got a gift", x.person(0, 0), 9999);
        Check.is("back to who was the holder", x.sell(0, 1, 0), 2);
        TillTheBell one = Check.of("people 1;thing 0;");
        Check.is("there is no other one", one.sell(0, 0, 0), -11);
        Check.is("nobody", new TillTheBell().sell(0, 0, 0), -11);
    }

    /** "3 TAKER hasn't so many COINS; 4 the BELL HAS RUNG; 5 it is EATEN; 6 there are 30" */
    private static void p11SellThreeToSix() {
        TillTheBell x = Check.of("people 3;coins 1 20;thing 0;thing 0;thing 0;bell 2;eaten 2;");
        Check.is("21 of 20", x.sell(0, 1, 21), -13);
        Check.is("20 of 20", x.sell(0, 1, 20), 0);
        Check.is("1 of 0", x.sell(1, 1, 1), -13);
        Check.is("0 of 0", x.sell(1, 1, 0), 1);
        Check.is("eaten", x.sell(2, 1, 0), -15);
        x.pass(1);
        Check.is("not rung", x.sell(1, 0, 20), 2);
        x.eat(1);
        Check.is("eaten now", x.sell(1, 1, 0), -15);
        x.pass(1);
        Check.is("rung", x.sell(0, 0, 0), -14);
        Check.is("three", x.count(3), 3);
        TillTheBell below = Check.of("people 3;coins 1 9;thing 0;thing 2;share 0;");
        below.sell(0, 1, 9);
        below.sell(1, 0, 9);
        below.undo(0, 1);
        Check.is("coins are -9", below.person(0, 0), -9);
        Check.is("not even a gift", below.sell(1, 0, 0), -11);
        Check.is("not even that one", below.sell(0, 2, 0), 2);
        Check.is("nor back", below.sell(0, 0, 0), -13);
        thirty();
    }

    private static void thirty() {
        TillTheBell x = Check.of("people 2;thing 0;thing 0;");
        for (int i = 0; i < 30; i++) {
            Check.is("number " + i, x.sell(0, 1 - i % 2, 0), i);
            Check.is("so many", x.count(3), i + 1);
        }
        Check.is("a 31st", x.sell(0, 1, 0), -16);
        Check.is("of another thing", x.sell(1, 1, 0), -16);
        Check.is("30 still", x.count(3), 30);
        Check.is("undone", x.undo(29, 0), 1);
        Check.is("it counts still", x.sell(1, 1, 0), -16);
    }

    /** "the least of these", pair by pair */
    private static void p11TheLeastReason() {
        TillTheBell x = Check.of("people 2;coins 1 5;thing 0;thing 0;bell 1;eaten 1;");
        Check.is("1 and 2", x.sell(2, 1, 10000), -11);
        Check.is("1 and 2, the holder", x.sell(0, 0, -1), -11);
        Check.is("2 and 3", x.sell(0, 1, 10000), -12);
        Check.is("2 and 5", x.sell(1, 1, -1), -12);
        Check.is("3 and 5", x.sell(1, 1, 6), -13);
        for (int i = 0; i < 30; i++) {
            x.sell(0, 1 - i % 2, 0);
        }
        Check.is("1 and 6", x.sell(0, 2, 0), -11);
        Check.is("2 and 6", x.sell(0, 1, -1), -12);
        Check.is("3 and 6", x.sell(0, 1, 6), -13);
        Check.is("5 and 6", x.sell(1, 1, 0), -15);
        Check.is("6", x.sell(0, 1, 5), -16);
        x.pass(1);
        Check.is("1 and 4", x.sell(0, 0, 0), -11);
        Check.is("2 and 4", x.sell(0, 1, 10000), -12);
        Check.is("3 and 4", x.sell(0, 1, 6), -13);
        Check.is("4 and 5", x.sell(1, 1, 0), -14);
        Check.is("4 and 6", x.sell(0, 1, 0), -14);
    }

    private static TillTheBell chained() {
        TillTheBell x = Check.of("people 4;coins 0 100;coins 1 200;coins 2 300;thing 0 10 50 80;thing 1 30 20 90 5;thing 2;share 40;bell 600;");
        x.sell(0, 1, 30);
        x.pass(7);
        x.sell(2, 3, 0);
        x.sell(0, 2, 70);
        return x;
    }

    /** "NoSuchElementException: no such DEED (as everywhere); IllegalArgumentException: another what." */
    private static void p12Deed() {
        TillTheBell x = chained();
        int[][] due = {{0, 0, 1, 30, 1, 0, 20, 20}, {2, 2, 3, 0, 1, 7, 0, 0}, {0, 1, 2, 70, 1, 7, 20, 10}};
        for (int d = 0; d < 3; d++) {
            for (int what = 0; what < 8; what++) {
                Check.is("deed " + d + ", " + what, x.deed(d, what), due[d][what]);
            }
        }
        for (int d : new int[] {-1, 3, 29, 30, 31, 32, Integer.MIN_VALUE, Integer.MAX_VALUE}) {
            Check.throwsA(NoSuchElementException.class, "deed " + d, () -> x.deed(d, 0));
            Check.throwsA(NoSuchElementException.class, "deed " + d + ", told first", () -> x.deed(d, 8));
        }
        for (int what : new int[] {-1, 8, Integer.MIN_VALUE, Integer.MAX_VALUE}) {
            Check.throwsA(IllegalArgumentException.class, "what " + what, () -> x.deed(0, what));
            Check.throwsA(IllegalArgumentException.class, "what " + what, () -> x.deed(2, what));
        }
        x.undo(2, 2);
        Check.is("it doesn't stand", x.deed(2, 4), 0);
        Check.is("the price all the same", x.deed(2, 3), 70);
        Check.is("its worth all the same", x.deed(2, 6), 20);
        Check.throwsA(NoSuchElementException.class, "nobody's", () -> new TillTheBell().deed(0, 0));
    }

    /** "WORTH of a DEED to its TAKER: WORTH of the THING to him less PRICE, to its GIVER: ..; 0, if below 0." */
    private static void worthOfADeed() {
        TillTheBell x = Check.of("people 2;coins 1 9999;thing 0 500 600;thing 0 500 600;thing 0 500 600;thing 0 500 600;thing 0 500 600;thing 0 500 600;");
        int[] prices = {0, 499, 501, 599, 601, 500};
        int[] toGiver = {0, 0, 1, 99, 101, 0};
        int[] toTaker = {600, 101, 99, 1, 0, 100};
        for (int d = 0; d < 6; d++) {
            x.sell(d, 1, prices[d]);
            Check.is("to the giver, price " + prices[d], x.deed(d, 6), toGiver[d]);
            Check.is("to the taker, price " + prices[d], x.deed(d, 7), toTaker[d]);
        }
    }

    /** "It can't be by the least of these: 1 no such DEED; 2 it doesn't STAND; 3 .. neither its GIVER nor its TAKER; 4 ..; 5 ..; 6 .." */
    private static void p13May() {
        TillTheBell x = chained();
        for (int d : new int[] {-1, 3, 30, 31, 32, Integer.MIN_VALUE, Integer.MAX_VALUE}) {
            Check.is("deed " + d, x.may(d, 0), 1);
            Check.is("undo " + d, x.undo(d, 0), -11);
        }
        int[][] due = {{0, 0, 3, 3}, {3, 3, 0, 0}, {3, 0, 0, 3}};
        for (int d = 0; d < 3; d++) {
            for (int p = 0; p < 4; p++) {
                Check.is("deed " + d + " by " + p, x.may(d, p), due[d][p]);
            }
        }
        for (int p : new int[] {-1, 4, 6, Integer.MIN_VALUE, Integer.MAX_VALUE}) {
            Check.throwsA(NoSuchElementException.class, "may, by " + p, () -> x.may(0, p));
            Check.throwsA(NoSuchElementException.class, "may, by " + p + ", no deed", () -> x.may(-1, p));
            Check.throwsA(NoSuchElementException.class, "undo, by " + p, () -> x.undo(0, p));
            Check.throwsA(NoSuchElementException.class, "undo, by " + p + ", no deed", () -> x.undo(3, p));
        }
        x.pass(592);
        Check.is("at 599", x.may(0, 0), 0);
        x.pass(1);
        Check.is("at 600", x.may(0, 0), 4);
        Check.is("undo at 600", x.undo(0, 0), -14);
        Check.throwsA(NoSuchElementException.class, "nobody", () -> new TillTheBell().may(0, 0));
    }

    /** pair by pair: who can't pay, of an eaten thing, behind the bell, who has no part in it, of what doesn't stand */
    private static void p13TheLeastReason() {
        TillTheBell x = Check.of("people 3;coins 1 9;thing 0;thing 2;share 0;bell 3;");
        x.sell(0, 1, 9);
        x.sell(1, 0, 9);
        Check.is("6", x.may(0, 0), 6);
        x.eat(0);
        Check.is("5 and 6", x.may(0, 0), 5);
        Check.is("5", x.may(0, 1), 5);
        Check.is("3 and 5", x.may(0, 2), 3);
        x.undo(1, 0);
        Check.is("2", x.may(1, 0), 2);
        Check.is("2 and 3", x.may(1, 1), 2);
        x.pass(3);
        Check.is("4 and 5", x.may(0, 0), 4);
        Check.is("3 and 4", x.may(0, 2), 3);
        Check.is("2 and 4", x.may(1, 0), 2);
        Check.is("1 and 4", x.may(2, 0), 1);
    }

    /** "6 he would have COINS below 0 behind it": what he owes counts, and what he gets back */
    private static void behindIt() {
        // The giver gives 30 back and owes half of 10: 35 are enough, 34 are not.
        for (int coins = 34; coins <= 35; coins++) {
            TillTheBell x = Check.of("people 3;coins 0 20;coins 1 30;thing 0 0 40;thing 2;share 50;");
            x.sell(0, 1, 30);
            x.sell(1, 0, 50 - coins);
            Check.is("coins", x.person(0, 0), coins);
            Check.is("may with " + coins, x.may(0, 0), coins == 35 ? 0 : 6);
            Check.is("undo with " + coins, x.undo(0, 0), coins == 35 ? 1 : -16);
            Check.is("coins behind it", x.person(0, 0), coins == 35 ? 0 : 34);
        }
        // The taker gets 10 back and owes all of 10 to the giver: 0 are enough; with a share of 100 and a thing of no worth.
        TillTheBell y = Check.of("people 2;coins 1 10;thing 0 0 0;share 100;");
        y.sell(0, 1, 10);
        Check.is("he has none", y.person(1, 0), 0);
        Check.is("he may", y.may(0, 1), 0);
        Check.is("he does", y.undo(0, 1), 1);
        Check.is("he has none", y.person(1, 0), 0);
        Check.is("the giver has 10", y.person(0, 0), 10);
        // Who sold on what he bought owes both ends: 1 got 20 for what he gave 10 for.
        TillTheBell z = Check.of("people 3;coins 1 10;coins 2 20;thing 0 1 0 40;share 10;");
        z.sell(0, 1, 10);
        z.sell(0, 2, 20);
        Check.is("he has 20, gives 20, gets 10, owes 0 and 2", z.may(0, 1), 0);
        z.undo(0, 1);
        Check.is("8 are left", z.person(1, 0), 8);
    }

    /** "UNDONE: how many DEEDS FELL; below 0: less why it can't be, and 10 (-11 to -16)." */
    private static void p14Undo() {
        TillTheBell x = chained();
        Check.is("not his", x.undo(0, 2), -13);
        Check.is("one falls", x.undo(2, 1), 1);
        Check.is("it has fallen", x.undo(2, 1), -12);
        Check.is("the one ahead falls alone", x.undo(0, 1), 1);
        Check.is("the gift of another thing", x.undo(1, 3), 1);
        Check.is("none stands", x.count(4), 0);
        TillTheBell y = chained();
        Check.is("both fall", y.undo(0, 1), 2);
        // 1 gives 70 back, gets 30, owes 8 to the giver of the first and 4 to the taker of the second.
        Check.is("coins of 0", y.person(0, 0), 108);
        Check.is("coins of 1", y.person(1, 0), 188);
        Check.is("coins of 2", y.person(2, 0), 304);
        Check.is("holder", y.holder(0), 0);
        Check.is("the later one has fallen, too", y.undo(2, 1), -12);
        Check.is("other things' deeds stand", y.deed(1, 4), 1);
        y.eat(2);
        Check.is("eaten", y.undo(1, 2), -15);
    }

    /** "it and all later DEEDS of its THING that STAND FALL, the latest first" */
    private static void thirtyFall() {
        TillTheBell x = thirtyGifts();
        Check.is("the last falls alone", x.falls(29), 1 << 29);
        Check.is("the first with all", x.falls(0), (1 << 30) - 1);
        Check.is("from the middle", x.falls(15), (1 << 30) - (1 << 15));
        Check.is("the last of the chain", x.chain(0, 29), 29);
        Check.is("none behind it", x.chain(0, 30), -1);
        Check.is("open", x.open(), (1 << 30) - 1);
        Check.is("15 of them", x.undo(15, 1), 15);
        Check.is("15 stand", x.count(4), 15);
        Check.is("holder", x.holder(0), 1);
        Check.is("all that stand", x.undo(0, 0), 15);
        Check.is("holder", x.holder(0), 0);
        Check.is("all thirty at once", thirtyGifts().undo(0, 1), 30);
    }

    private static TillTheBell thirtyGifts() {
        TillTheBell x = Check.of("people 2;thing 0;thing 0;");
        for (int i = 0; i < 30; i++) {
            x.sell(0, 1 - i % 2, 0);
        }
        return x;
    }

    /** "DEEDS (bits) that would FALL with one; 0: it doesn't STAND." */
    private static void p15Falls() {
        TillTheBell x = chained();
        int[] due = {5, 2, 4};
        for (int d = 0; d < 3; d++) {
            Check.is("falls " + d, x.falls(d), due[d]);
        }
        x.undo(2, 1);
        Check.is("it doesn't stand", x.falls(2), 0);
        Check.is("without it", x.falls(0), 1);
        x.sell(0, 3, 0);
        Check.is("with a newer one", x.falls(0), 9);
        for (int d : new int[] {-1, 4, 31, 32, Integer.MIN_VALUE, Integer.MAX_VALUE}) {
            Check.throwsA(NoSuchElementException.class, "falls " + d, () -> x.falls(d));
        }
    }

    /** "What a PERSON would OWE another one by UNDOING a DEED (0: it doesn't STAND, he is not of it; to himself 0)." */
    private static void p16Owes() {
        TillTheBell x = chained();
        int[][] first = {{0, 16, 4, 0}, {8, 0, 4, 0}, {0, 0, 0, 0}, {0, 0, 0, 0}};
        int[][] third = {{0, 0, 0, 0}, {0, 0, 4, 0}, {0, 8, 0, 0}, {0, 0, 0, 0}};
        for (int by = 0; by < 4; by++) {
            for (int to = 0; to < 4; to++) {
                Check.is("deed 0, " + by + " to " + to, x.owes(0, by, to), first[by][to]);
                Check.is("deed 1, " + by + " to " + to, x.owes(1, by, to), 0);
                Check.is("deed 2, " + by + " to " + to, x.owes(2, by, to), third[by][to]);
            }
        }
        for (int wrong : new int[] {-1, 4, Integer.MIN_VALUE, Integer.MAX_VALUE}) {
            Check.throwsA(NoSuchElementException.class, "deed " + wrong, () -> x.owes(wrong, 0, 1));
            Check.throwsA(NoSuchElementException.class, "by " + wrong, () -> x.owes(0, wrong, 1));
            Check.throwsA(NoSuchElementException.class, "to " + wrong, () -> x.owes(0, 0, wrong));
        }
        Check.throwsA(NoSuchElementException.class, "deed 3", () -> x.owes(3, 0, 1));
        x.undo(2, 2);
        Check.is("it doesn't stand", x.owes(2, 2, 1), 0);
        Check.is("without it", x.owes(0, 0, 1), 8);
    }

    /** "share hundredths of its WORTH to them, each cut" */
    private static void eachCut() {
        int[][] due = {{0, 0}, {1, 0}, {49, 0}, {50, 1}, {51, 1}, {99, 1}, {100, 2}};
        for (int[] d : due) {
            TillTheBell x = Check.of("people 2;thing 0 0 2;share " + d[0] + ";");
            x.sell(0, 1, 0);
            Check.is("share " + d[0] + " of 2", x.owes(0, 0, 1), d[1]);
        }
        TillTheBell x = Check.of("people 2;thing 0 0 999;share 100;");
        x.sell(0, 1, 0);
        Check.is("all of 999", x.owes(0, 0, 1), 999);
        x.share(99);
        Check.is("989.01", x.owes(0, 0, 1), 989);
        x.share(1);
        Check.is("9.99", x.owes(0, 0, 1), 9);
        // 1 is worth 3 as taker and 3 as giver: a half of each is 1, not 3 together.
        TillTheBell y = Check.of("people 3;coins 0 2;coins 2 9;thing 0 0 3;share 50;");
        y.sell(0, 1, 0);
        y.sell(0, 2, 6);
        Check.is("1 and 1", y.owes(0, 0, 1), 2);
        Check.is("at once", y.debt(0, 0), 2);
        Check.is("both fall", y.undo(0, 0), 2);
        Check.is("coins of 0", y.person(0, 0), 0);
        Check.is("coins of 1", y.person(1, 0), 2);
    }

    /** "The k-th DEED of a THING that STANDS, the first one first; NONE." */
    private static void p17Chain() {
        TillTheBell x = chained();
        x.sell(0, 3, 0);
        x.undo(2, 2);
        x.sell(0, 0, 0);
        int[] due = {0, 4};
        for (int k = 0; k < 2; k++) {
            Check.is("chain " + k, x.chain(0, k), due[k]);
        }
        for (int k : new int[] {-1, -2, 2, 30, Integer.MIN_VALUE, Integer.MAX_VALUE}) {
            Check.is("chain " + k, x.chain(0, k), -1);
        }
        Check.is("no chain", x.chain(1, 0), -1);
        Check.is("of one", x.chain(2, 0), 1);
        Check.is("behind it", x.chain(2, 1), -1);
        for (int thing : new int[] {-1, 3, Integer.MIN_VALUE, Integer.MAX_VALUE}) {
            Check.throwsA(NoSuchElementException.class, "thing " + thing, () -> x.chain(thing, 0));
        }
    }

    private static void judged(TillTheBell x, int tray, int place, int why, int stand) {
        Check.is("judge: place", x.judge(tray, 0), place);
        Check.is("judge: why", x.judge(tray, 1), why);
        Check.is("judge: stand", x.judge(tray, 2), stand);
    }

    /** "what 0: the first place that can't be (NONE), 1: why (0; 1 also for what is no DEED), 2: DEEDS that STAND then (how many)" */
    private static void p18Judge() {
        TillTheBell x = chained();
        for (int tray : new int[] {-1, 4, Integer.MIN_VALUE, Integer.MAX_VALUE}) {
            Check.throwsA(NoSuchElementException.class, "tray " + tray, () -> x.judge(tray, 0));
            Check.throwsA(NoSuchElementException.class, "tray " + tray + ", told first", () -> x.judge(tray, 3));
            Check.throwsA(NoSuchElementException.class, "perform " + tray, () -> x.perform(tray));
        }
        for (int t = 0; t < 4; t++) {
            int tray = t;
            Check.throwsA(IllegalStateException.class, "missing " + t, () -> x.judge(tray, 0));
            Check.throwsA(IllegalStateException.class, "missing " + t + ", told ahead of what", () -> x.judge(tray, 3));
            Check.throwsA(IllegalStateException.class, "perform missing " + t, () -> x.perform(tray));
            Check.fill(x, t, t, 5, 2);
            judged(x, t, -1, 0, 1);
        }
        for (int what : new int[] {-1, 3, Integer.MIN_VALUE, Integer.MAX_VALUE}) {
            Check.throwsA(IllegalArgumentException.class, "what " + what, () -> x.judge(0, what));
        }
        Check.fill(x, 0, 0);
        judged(x, 0, -1, 0, 3);
        Check.fill(x, 0, 0, 5, 4);
        judged(x, 0, 1, 2, 2);
        Check.fill(x, 0, 0, 0, 5, 2);
        judged(x, 0, 1, 2, 1);
        Check.fill(x, 0, 0, 6, 0);
        judged(x, 0, 0, 1, 3);
        Check.is("as if done", x.count(4), 3);
        forty();
    }

    private static void forty() {
        TillTheBell x = thirtyGifts();
        x.tray(0, 0, 40);
        for (int i = 0; i < 40; i++) {
            x.write(0, i, i < 30 ? 59 - 2 * i : 1);
        }
        judged(x, 0, 30, 2, 0);
        Check.is("thirty are done", x.perform(0), 30);
        x.tray(1, 0, 30);
        judged(x, 1, 0, 2, 0);
        TillTheBell y = thirtyGifts();
        for (int told = 58; told <= 61; told++) {
            Check.fill(y, 2, 2, told);
            judged(y, 2, told < 60 ? -1 : 0, told < 60 ? 0 : 1, told < 60 ? 29 : 30);
        }
    }

    /** 2, 4, 5 and 6 as reasons; 3 can't be, as a side is told */
    private static void judgedReasons() {
        TillTheBell x = Check.of("people 3;coins 1 9;thing 0;thing 2;share 0;bell 3;");
        x.sell(0, 1, 9);
        x.sell(1, 0, 9);
        Check.fill(x, 0, 0, 0);
        judged(x, 0, 0, 6, 2);
        // By the taker of deed 1 first: then he has the coins.
        Check.fill(x, 1, 0, 3, 0);
        judged(x, 1, -1, 0, 0);
        // By the giver of deed 1 it is all the same.
        Check.fill(x, 1, 0, 2, 0);
        judged(x, 1, -1, 0, 0);
        Check.fill(x, 1, 0, 1);
        judged(x, 1, -1, 0, 1);
        x.eat(0);
        judged(x, 1, 0, 5, 2);
        x.pass(3);
        judged(x, 1, 0, 4, 2);
        Check.is("none is done", x.perform(1), 0);
    }

    /** "2 times a DEED, and 1 more if by its TAKER": the bounds of what is a DEED, in each sort */
    private static void numbersOfTrays() {
        TillTheBell x = chained();
        long[] none = {-1, -2, 6, 7, 127, -128, 32767, -32768, Integer.MAX_VALUE, Integer.MIN_VALUE, Long.MAX_VALUE, Long.MIN_VALUE, 1L << 32, (1L << 32) + 2};
        for (long told : none) {
            Check.fill(x, 3, 3, told);
            judged(x, 3, 0, 1, 3);
            Check.is("none is done", x.perform(3), 0);
        }
        int[] stand = {1, 1, 2, 2, 2, 2};
        for (int told = 0; told < 6; told++) {
            Check.fill(x, 3, 3, told);
            judged(x, 3, -1, 0, stand[told]);
        }
        // Cut to 8 bits 256 and 4 is 4; to 16 bits it stays.
        Check.fill(x, 0, 0, 260);
        judged(x, 0, -1, 0, 2);
        Check.fill(x, 1, 1, 260);
        judged(x, 1, 0, 1, 3);
        Check.fill(x, 1, 1, 65540);
        judged(x, 1, -1, 0, 2);
    }

    /** "They are done, till one can't be: how many were." */
    private static void p19Perform() {
        TillTheBell x = chained();
        Check.fill(x, 0, 0, 4, 6, 2);
        Check.is("one", x.perform(0), 1);
        Check.is("by its giver: 1 owes 2", x.person(2, 0), 304);
        Check.is("what is behind is not done", x.deed(1, 4), 1);
        Check.fill(x, 0, 0);
        Check.is("none told", x.perform(0), 0);
        Check.fill(x, 0, 0, 2, 1);
        Check.is("both", x.perform(0), 2);
        Check.is("by its taker: 1 owes 0", x.person(0, 0), 108);
        Check.is("none stands", x.count(4), 0);
        TillTheBell y = chained();
        Check.fill(y, 0, 0, 5);
        Check.is("by its taker", y.perform(0), 1);
        Check.is("2 owes 1", y.person(2, 0), 292);
    }

    /** "IllegalArgumentException: how many times."; "Without THINGS nothing is drawn." */
    private static void p20Day() {
        TillTheBell x = Check.of("people 2;coins 0 500;coins 1 500;thing 0 5 6;");
        for (int times : new int[] {-1, 0, 41, Integer.MIN_VALUE, Integer.MAX_VALUE}) {
            Check.throwsA(IllegalArgumentException.class, "times " + times, () -> x.day(5, times));
        }
        Check.is("none made", x.count(3), 0);
        Check.is("no things", Check.of("people 2;").day(7, 40), 0);
        Check.is("nobody", new TillTheBell().day(7, 1), 0);
        Check.throwsA(IllegalArgumentException.class, "times told ahead", () -> new TillTheBell().day(7, 0));
        TillTheBell rung = Check.of("people 2;coins 0 500;coins 1 500;thing 0 5 6;bell 1;");
        rung.pass(1);
        Check.is("rung", rung.day(7, 40), 0);
        for (int seed = 0; seed < 30; seed++) {
            TillTheBell alone = Check.of("people 1;coins 0 50;thing 0 5;");
            Check.is("nobody to sell to", alone.day(seed, 40), 0);
        }
    }

    /** The draws, by long arithmetic, as calls of sell and undo on a twin. */
    private static void drawnDays() {
        String[] towns = {"people 2;coins 0 500;coins 1 500;thing 0 5 6;", "people 6;coins 0 99;coins 3 99;coins 5 99;" + "thing 1 9 9;".repeat(10)};
        for (String town : towns) {
            for (int seed = -3; seed < 12; seed++) {
                for (int times : new int[] {1, 2, 39, 40}) {
                    drawn(town, seed * 1000003, times);
                }
            }
            drawn(town, Integer.MIN_VALUE, 40);
            drawn(town, Integer.MAX_VALUE, 40);
        }
    }

    private static void drawn(String town, int seed, int times) {
        TillTheBell x = Check.of(town);
        TillTheBell y = Check.of(town);
        // A gift and a day ahead, so that there are deeds now and then at the first draw.
        if (seed % 2 == 0) {
            x.sell(0, 1 - x.holder(0), 0);
            y.sell(0, 1 - y.holder(0), 0);
        }
        long state = seed & 0xffffffffL;
        int done = 0;
        for (int i = 0; i < times; i++) {
            state = after(state);
            if ((state >> 16) % 3 < 2) {
                long thing = after(state);
                long to = after(thing);
                state = after(to);
                int made = y.sell((int) ((thing >> 16) % y.count(2)), (int) ((to >> 16) % y.count(1)), (int) ((state >> 16) % 100));
                done += made >= 0 ? 1 : 0;
            } else if (y.count(3) > 0) {
                long which = after(state);
                state = after(which);
                int d = (int) ((which >> 16) % y.count(3));
                done += y.undo(d, y.deed(d, (state >> 16) % 2 == 0 ? 1 : 2)) > 0 ? 1 : 0;
            }
        }
        Check.is("day " + seed + ", " + times, x.day(seed, times), done);
        for (int what = 0; what < 12; what++) {
            Check.is("behind it: count " + what, x.count(what), y.count(what));
        }
        for (int p = 0; p < x.count(1); p++) {
            Check.is("behind it: wealth " + p, x.person(p, 1), y.person(p, 1));
        }
        for (int d = 0; d < x.count(3); d++) {
            Check.is("behind it: deed " + d, x.deed(d, 3) * 2 + x.deed(d, 4), y.deed(d, 3) * 2 + y.deed(d, 4));
        }
    }

    private static long after(long state) {
        return (1103515245L * state + 12345L) & 0xffffffffL;
    }
}
