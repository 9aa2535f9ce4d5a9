import java.util.NoSuchElementException;

/** Promises 21 to 37: gains, pledges, the end of the day, news and shares. */
public final class BellTest {
    private static final String TOWN = "people 4;coins 0 100;coins 1 200;coins 2 300;"
        + "thing 0 10 50 80;thing 1 30 20 90 5;thing 2;share 40;bell 600;";

    public static void main(String[] args) {
        gains();
        openOnes();
        temptations();
        unravelling();
        debts();
        safePrices();
        longestAndBidder();
        theEndLooksAhead();
        nobodyHasATurn();
        likeOnes();
        bothRounds();
        otherFirst();
        tooMany();
        ringing();
        newsOfWorth();
        shares();
        Check.end("BellTest");
    }

    private static TillTheBell chained() {
        TillTheBell x = Check.of(TOWN);
        x.sell(0, 1, 30);
        x.sell(0, 2, 70);
        return x;
    }

    private static void gains() {
        TillTheBell x = chained();
        Check.is("giver of the first", x.gain(0, 0), -40);
        Check.is("taker of the first, giver of the second", x.gain(0, 1), -52);
        Check.is("not of it", x.gain(0, 2), -1);
        Check.is("giver of the second", x.gain(1, 1), -24);
        Check.is("taker of the second", x.gain(1, 2), -18);
        Check.throwsA(NoSuchElementException.class, "gain: no deed", () -> x.gain(2, 0));
        Check.throwsA(NoSuchElementException.class, "gain: nobody", () -> x.gain(0, 4));
        int before = x.person(1, 1);
        int told = x.gain(0, 1);
        x.undo(0, 1);
        Check.is("it was told truly", x.person(1, 1) - before, told);
        Check.is("undone", x.gain(0, 0), -1);
        // He gave it, has it again, and gave 40 for it in between.
        TillTheBell y = Check.of("people 2;coins 0 100;coins 1 100;thing 0 30 30;share 50;");
        y.sell(0, 1, 10);
        y.sell(0, 0, 50);
        Check.is("50 back, 10 given, 20 hundredths of 20 twice less", y.gain(0, 0), 40 - 10 - 10);
        TillTheBell poor = Check.of("people 3;coins 1 50;thing 0 40 40;thing 2;share 0;");
        poor.sell(0, 1, 30);
        poor.sell(1, 0, 30);
        Check.is("coins may be below 0 here", poor.gain(0, 0), 10);
        Check.is("he can't", poor.may(0, 0), 6);
    }

    private static void openOnes() {
        TillTheBell x = chained();
        x.sell(1, 2, 95);
        x.sell(2, 0, 3);
        Check.is("open", x.open(), 15);
        Check.is("safe", x.safe(), 7);
        Check.is("pledge of a safe one", x.pledge(0), 0);
        Check.is("pledge: 95 - 90, less 40 hundredths of 75", x.gain(2, 2), -25);
        Check.is("pledge 2: the giver has no gain", x.gain(2, 1), -75);
        Check.is("pledge 2", x.pledge(2), 0);
        Check.is("3 for nothing", x.gain(3, 0), 2);
        Check.is("pledge 3", x.pledge(3), 2);
        Check.throwsA(NoSuchElementException.class, "pledge: no deed", () -> x.pledge(4));
        Check.throwsA(NoSuchElementException.class, "pledge: no deed", () -> x.pledge(-1));
        x.eat(2);
        Check.is("eaten: not open", x.open(), 7);
        Check.is("eaten: no pledge", x.pledge(3), 0);
        Check.is("eaten: no gain", x.gain(3, 0), -1);
        x.undo(1, 2);
        Check.is("undone: not open", x.open(), 5);
        x.pass(600);
        Check.is("rung: none", x.open(), 0);
        Check.is("rung: none safe", x.safe(), 0);
        Check.is("rung: no gain", x.gain(0, 0), -1);
        Check.is("rung: nobody tempted", x.tempted(), 0);
        Check.is("rung: nothing unravels", x.unravel(), 0);
        Check.is("rung: they stand in the end", x.end(1, 0), 13);
    }

    private static void temptations() {
        TillTheBell x = Check.of("people 4;coins 1 90;coins 3 90;thing 0 50 20;thing 2 1 1 5 90;thing 2 0 0 0 7;share 50;");
        Check.is("nobody yet", x.tempted(), 0);
        x.sell(0, 1, 30);
        Check.is("both: 20 and 10 more", x.tempted(), 3);
        Check.is("giver", x.gain(0, 0), 20);
        Check.is("taker", x.gain(0, 1), 10);
        Check.is("the greater is the pledge", x.pledge(0), 20);
        x.sell(1, 3, 50);
        Check.is("a good deed tempts nobody", x.tempted(), 3);
        x.sell(2, 3, 7);
        Check.is("a gain of 0 is none: -3", x.gain(2, 3), -3);
        x.share(0);
        Check.is("0", x.gain(2, 3), 0);
        Check.is("no temptation", x.tempted(), 3);
        Check.is("safe with 0", x.safe(), 6);
    }

    private static void unravelling() {
        TillTheBell x = Check.of("people 3;coins 0 50;coins 1 50;thing 0 5;thing 0 9;thing 0 9;thing 0;thing 2;share 0;");
        x.sell(0, 1, 0);
        x.sell(1, 1, 0);
        x.sell(2, 1, 0);
        x.sell(3, 1, 0);
        Check.is("three gains: 5, 9, 9", x.unravel(), 3);
        Check.is("the gift of no worth stands", x.count(4), 1);
        Check.is("that one", x.deed(3, 4), 1);
        // Giver and taker have a gain of 10 each: the giver undoes, and owes the taker.
        TillTheBell y = Check.of("people 2;coins 1 50;thing 0 30 10;share 50;");
        y.sell(0, 1, 20);
        Check.is("like gains", y.gain(0, 0) - y.gain(0, 1), 0);
        Check.is("one undoing", y.unravel(), 1);
        // The giver would gain most but has no coins left; the taker does it.
        TillTheBell z = Check.of("people 3;coins 1 50;thing 0 40 10;thing 2;share 10;");
        z.sell(0, 1, 20);
        z.sell(1, 0, 20);
        Check.is("he can't", z.may(0, 0), 6);
        Check.is("20 back by thing 1, then both can", z.unravel(), 2);
        Check.is("none stands", z.count(4), 0);
        Check.is("again: none", z.unravel(), 0);
    }

    private static void debts() {
        TillTheBell x = chained();
        Check.is("at most", x.debt(0, 0), 20);
        Check.is("by", x.debt(0, 1), 0);
        Check.is("of 12 and 4", x.debt(1, 0), 12);
        Check.is("by", x.debt(1, 1), 0);
        Check.is("of the last", x.debt(2, 0), 8);
        Check.is("by", x.debt(2, 1), 1);
        Check.is("without", x.debt(3, 0), 0);
        Check.is("without", x.debt(3, 1), -1);
        x.share(0);
        Check.is("all 0", x.debt(1, 0), 0);
        Check.is("the first such", x.debt(1, 1), 0);
        Check.is("the first such of the last", x.debt(2, 1), 1);
        Check.throwsA(NoSuchElementException.class, "debt of nobody", () -> x.debt(4, 7));
        Check.throwsA(IllegalArgumentException.class, "debt what 2", () -> x.debt(0, 2));
        Check.throwsA(IllegalArgumentException.class, "debt what -1", () -> x.debt(0, -1));
        x.eat(0);
        Check.is("not open", x.debt(1, 1), -1);
    }

    private static void safePrices() {
        TillTheBell x = Check.of("people 3;thing 0 20 60 10;share 0;");
        Check.is("least, share 0", x.safePrice(0, 1, 0), 20);
        Check.is("greatest, share 0", x.safePrice(0, 1, 1), 60);
        Check.is("none", x.safePrice(0, 2, 0), -1);
        Check.is("none", x.safePrice(0, 2, 1), -1);
        x.share(50);
        // Giver: 20 - p - cut((60 - p) / 2) is not above 0 for any p; taker: p - 60 - cut((p - 20) / 2) up to 101.
        Check.is("least, share 50", x.safePrice(0, 1, 0), 0);
        Check.is("greatest, share 50", x.safePrice(0, 1, 1), 100);
        x.share(100);
        Check.is("greatest, share 100", x.safePrice(0, 1, 1), 999);
        Check.throwsA(NoSuchElementException.class, "no thing", () -> x.safePrice(1, 1, 0));
        Check.throwsA(NoSuchElementException.class, "nobody", () -> x.safePrice(0, 3, 0));
        Check.throwsA(IllegalStateException.class, "holder, told ahead of what", () -> x.safePrice(0, 0, 5));
        Check.throwsA(IllegalArgumentException.class, "what 2", () -> x.safePrice(0, 1, 2));
        Check.throwsA(IllegalArgumentException.class, "what -1", () -> x.safePrice(0, 1, -1));
    }

    private static void longestAndBidder() {
        TillTheBell x = Check.of("people 3;coins 0 10;coins 1 10;coins 2 30;thing 0 0 10 10;thing 0 0 11 30;thing 1 31 0 31;thing 2 5 5;");
        Check.is("none", x.longest(), -1);
        x.sell(1, 1, 0);
        Check.is("one", x.longest(), 1);
        x.sell(0, 1, 0);
        Check.is("the first of like ones", x.longest(), 0);
        x.sell(1, 0, 0);
        Check.is("two", x.longest(), 1);
        x.undo(0, 0);
        Check.is("what fell doesn't count", x.longest(), 0);
        Check.is("like ones: the first, not the holder", x.bidder(0), 0 + 2);
        Check.is("who has the coins", x.bidder(1), 2);
        Check.is("the only ones have too few", x.bidder(2), -1);
        Check.is("the first", x.bidder(3), 0);
        Check.throwsA(NoSuchElementException.class, "no thing", () -> x.bidder(4));
        Check.throwsA(NoSuchElementException.class, "no thing", () -> x.bidder(-1));
        Check.is("a thing of no worth has one", Check.of("people 2;thing 0;").bidder(0), 1);
    }

    private static void theEndLooksAhead() {
        // Giver gains 5 by undoing, taker 25; whoever is first leaves it to the other one.
        TillTheBell x = Check.of("people 2;coins 1 100;thing 0 40 10;share 50;");
        x.sell(0, 1, 35);
        Check.is("none stands", x.end(1, 0), 0);
        Check.is("one turn", x.end(1, 1), 1);
        Check.is("the first leaves it", x.end(1, 100), -1);
        Check.is("the second does it", x.end(1, 101), 0);
        Check.is("wealth of the giver", x.end(1, 10), 40);
        Check.is("wealth of the taker", x.end(1, 11), 100);
        Check.is("keeper", x.keeper(0, 1), 0);
        Check.is("nothing has changed", x.holder(0), 1);
        Check.is("in two rounds the very last turn does it", x.end(2, 103), 0);
        for (int r : new int[] {-1, 0, 3}) {
            Check.throwsA(IllegalArgumentException.class, "rounds " + r, () -> x.end(r, 0));
            Check.throwsA(IllegalArgumentException.class, "rounds " + r, () -> x.keeper(0, r));
            Check.throwsA(NoSuchElementException.class, "keeper: the thing first", () -> x.keeper(1, r));
        }
        for (int what : new int[] {-1, 2, 9, 12, 15, 99, 102, 103, 2097152, Integer.MAX_VALUE, Integer.MIN_VALUE}) {
            Check.throwsA(IllegalArgumentException.class, "what " + what, () -> x.end(1, what));
        }
        TillTheBell y = chained();
        Check.is("all stand", y.end(1, 0), 3);
        Check.is("no turn", y.end(1, 1), 0);
        Check.is("keeper now", y.keeper(0, 2), 2);
        Check.is("keeper of another thing", y.keeper(1, 1), 1);
    }

    private static void nobodyHasATurn() {
        TillTheBell x = new TillTheBell();
        Check.is("nothing stands", x.end(1, 0), 0);
        Check.is("nothing is undone", x.end(2, 1), 0);
        for (int what : new int[] {10, 100, 101, 112, 2097152, Integer.MAX_VALUE}) {
            Check.throwsA(IllegalArgumentException.class, "nobody: what " + what, () -> x.end(1, what));
            Check.throwsA(IllegalArgumentException.class, "nobody, two rounds: what " + what, () -> x.end(2, what));
        }
        TillTheBell six = Check.of("people 6;");
        Check.is("the last of twelve turns", six.end(2, 111), -1);
        Check.throwsA(IllegalArgumentException.class, "there are twelve", () -> six.end(2, 112));
        Check.throwsA(IllegalArgumentException.class, "there are six", () -> six.end(1, 106));
        six.pass(999);
        Check.is("rung: a turn without anything undone", six.end(1, 105), -1);
    }

    private static void likeOnes() {
        TillTheBell x = Check.of("people 2;thing 1;thing 0 5;thing 0 5;share 0;");
        x.sell(0, 0, 0);
        x.sell(1, 1, 0);
        x.sell(2, 1, 0);
        Check.is("nothing rather than a gain of 0, the lesser deed", x.end(1, 100), 1);
        Check.is("the taker has no gain", x.end(1, 101), -1);
        Check.is("stand", x.end(1, 0), 5);
    }

    private static void bothRounds() {
        TillTheBell x = Check.of("people 2;thing 0 5;thing 0 5;share 0;");
        x.sell(0, 1, 0);
        x.sell(1, 1, 0);
        Check.is("one round: one of them", x.end(1, 0), 2);
        Check.is("two rounds: both", x.end(2, 0), 0);
        Check.is("two turns", x.end(2, 1), 2);
        int[] due = {0, -1, 1, -1};
        for (int k = 0; k < due.length; k++) {
            Check.is("turn " + k, x.end(2, 100 + k), due[k]);
        }
        Check.throwsA(IllegalArgumentException.class, "no turn behind the last of two rounds", () -> x.end(2, 104));
        Check.throwsA(IllegalArgumentException.class, "nor behind the last of one", () -> x.end(1, 102));
        Check.is("wealth", x.end(2, 10), 10);
        Check.is("keeper, one round", x.keeper(1, 1), 1);
        Check.is("keeper, two rounds", x.keeper(1, 2), 0);
    }

    private static void otherFirst() {
        // Person 1 gave away what he had got: by undoing his gift he gains 9; person 0 gains 5 by undoing all.
        TillTheBell x = Check.of("people 3;thing 0 5 9;share 0;");
        x.sell(0, 1, 0);
        x.sell(0, 2, 0);
        Check.is("0 first: all falls", x.endFrom(0), 0);
        Check.is("1 first: his falls, then 0 undoes the other", x.endFrom(1), 0);
        x.share(100);
        Check.is("0 would owe 9 for 5; 1 owes nothing", x.endFrom(0), 1);
        // 0 sold it to 1 and has bought it back, each for 7; it is worth 6 to 0. First, 0 gains nothing whatever he does,
        // as 1 undoes the rest; first, 1 undoes all, lest 0 undoes the second and 1 loses 7.
        TillTheBell y = Check.of("people 2;coins 0 20;coins 1 20;thing 0 6 0;share 0;");
        y.sell(0, 1, 7);
        y.sell(0, 0, 7);
        Check.is("0 first", y.endFrom(0), 3);
        Check.is("that is the end", y.end(1, 0), 3);
        Check.is("1 first", y.endFrom(1), 0);
        Check.throwsA(NoSuchElementException.class, "nobody", () -> y.endFrom(2));
        Check.throwsA(NoSuchElementException.class, "nobody", () -> y.endFrom(-1));
    }

    private static void tooMany() {
        TillTheBell x = Check.of("people 2;thing 0 1 2;thing 0;");
        for (int i = 0; i < 10; i++) {
            x.sell(0, 1 - i % 2, 0);
        }
        Check.yes("ten are not too many", x.end(2, 0) != TillTheBell.SPENT);
        Check.yes("nor for the best share", x.bestShare() != TillTheBell.SPENT);
        x.sell(0, 1, 0);
        Check.is("eleven: end", x.end(1, 0), -100000);
        Check.is("eleven: turns", x.end(2, 1), -100000);
        Check.is("eleven: wealth", x.end(1, 10), -100000);
        Check.is("eleven: a turn", x.end(1, 100), -100000);
        Check.is("eleven: keeper", x.keeper(1, 1), -100000);
        Check.is("eleven: endFrom", x.endFrom(1), -100000);
        Check.is("eleven: ringer", x.ringer(0), -100000);
        Check.is("eleven: news", x.news(0, 0, 5), -100000);
        Check.is("eleven: best share", x.bestShare(), -100000);
        Check.throwsA(IllegalArgumentException.class, "eleven: what", () -> x.end(1, 12));
        Check.is("eleven: the last turn", x.end(2, 103), -100000);
        Check.throwsA(IllegalArgumentException.class, "eleven: no such turn", () -> x.end(2, 104));
        Check.throwsA(IllegalArgumentException.class, "eleven: rounds", () -> x.keeper(0, 0));
        x.eat(0);
        Check.is("eaten ones don't count, and stand", x.end(1, 0), 2047);
        Check.is("keeper of it", x.keeper(0, 1), 1);
    }

    private static void ringing() {
        TillTheBell x = Check.of("people 3;coins 1 100;thing 0 40 10;share 50;");
        x.sell(0, 1, 35);
        Check.is("the giver would miss 5", x.ringer(0), -5);
        Check.is("the taker would miss 25", x.ringer(1), -25);
        Check.is("the third nothing", x.ringer(2), 0);
        TillTheBell y = Check.of("people 2;thing 0 9 8;share 50;");
        y.sell(0, 1, 0);
        Check.is("a gift undone costs the taker 8 less 4", y.ringer(1), 4);
        Check.is("and brings the giver 9 less 4", y.ringer(0), -5);
        y.pass(720);
        Check.is("it has rung", y.ringer(1), 0);
        Check.throwsA(NoSuchElementException.class, "nobody", () -> y.ringer(2));
        Check.throwsA(NoSuchElementException.class, "nobody", () -> y.ringer(-1));
    }

    private static void newsOfWorth() {
        TillTheBell x = Check.of("people 2;thing 0 9 8;share 50;");
        x.sell(0, 1, 0);
        Check.is("as it is", x.news(0, 0, 9), 0);
        Check.is("4 is no more than he owes", x.news(0, 0, 4), 1);
        Check.is("5 is", x.news(0, 0, 5), 0);
        Check.is("18 to the taker: 9 are owed", x.news(0, 1, 18), 1);
        Check.is("17 to the taker: 8 are", x.news(0, 1, 17), 0);
        Check.is("only news", x.worth(0, 1), 8);
        Check.is("999", x.news(0, 1, 999), 1);
        Check.throwsA(IllegalArgumentException.class, "-1", () -> x.news(0, 0, -1));
        Check.throwsA(IllegalArgumentException.class, "1000", () -> x.news(0, 0, 1000));
        Check.throwsA(NoSuchElementException.class, "no thing", () -> x.news(1, 0, 1000));
        Check.throwsA(NoSuchElementException.class, "nobody", () -> x.news(0, 2, 1000));
    }

    private static void shares() {
        TillTheBell x = Check.of("people 2;thing 0 9 18;share 30;");
        Check.is("nothing done: 0", x.bestShare(), 0);
        x.sell(0, 1, 0);
        Check.is("9 are owed from 50 on", x.bestShare(), 50);
        Check.is("it is no other share yet", x.count(6), 30);
        Check.is("the one before", x.share(49), 30);
        Check.is("49: it falls", x.end(1, 0), 0);
        Check.is("the one before", x.share(50), 49);
        Check.is("50: it stands", x.end(1, 0), 1);
        Check.is("0", x.share(0), 50);
        Check.is("100", x.share(100), 0);
        Check.throwsA(IllegalArgumentException.class, "-1", () -> x.share(-1));
        Check.throwsA(IllegalArgumentException.class, "101", () -> x.share(101));
        Check.is("it stays", x.count(6), 100);
        TillTheBell y = Check.of("people 2;thing 0 9 0;");
        y.sell(0, 1, 0);
        Check.is("none helps: the least", y.bestShare(), 0);
    }
}
