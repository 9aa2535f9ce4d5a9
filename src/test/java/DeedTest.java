import java.util.NoSuchElementException;

/** Promises 11 to 20: deeds and undoings. */
public final class DeedTest {
    private static final String TOWN = "people 4;coins 0 100;coins 1 200;coins 2 300;"
        + "thing 0 10 50 80;thing 1 30 20 90 5;thing 2;share 40;bell 600;";

    public static void main(String[] args) {
        selling();
        aChain();
        undoing();
        coinsBelowNothing();
        whyNot();
        toldUndoings();
        days();
        Check.end("DeedTest");
    }

    private static void selling() {
        TillTheBell x = Check.of(TOWN + "eaten 2;");
        Check.is("no thing", x.sell(3, 1, 1), -11);
        Check.is("no thing", x.sell(-1, 1, 1), -11);
        Check.is("nobody", x.sell(0, 4, 1), -11);
        Check.is("nobody", x.sell(0, -1, 1), -11);
        Check.is("the holder", x.sell(0, 0, 10000), -11);
        Check.is("price -1", x.sell(0, 1, -1), -12);
        Check.is("price 10000", x.sell(0, 1, 10000), -12);
        Check.is("201 coins of 200", x.sell(0, 1, 201), -13);
        Check.is("coins told ahead of eaten", x.sell(2, 0, 101), -13);
        Check.is("eaten", x.sell(2, 0, 5), -15);
        Check.is("all 200 coins", x.sell(0, 1, 200), 0);
        Check.is("a gift", x.sell(0, 3, 0), 1);
        Check.is("coins of the giver", x.person(0, 0), 300);
        Check.is("coins of the taker", x.person(1, 0), 0);
        for (int i = 2; i < 30; i++) {
            Check.is("gift " + i, x.sell(1, i % 2 == 0 ? 0 : 1, 0), i);
        }
        Check.is("there are 30", x.sell(1, 0, 0), -16);
        Check.is("eaten is less than 30", x.sell(2, 0, 0), -15);
        x.undo(29, 0);
        Check.is("undone ones count, too", x.sell(1, 2, 0), -16);
        x.pass(600);
        Check.is("rung is less than eaten", x.sell(2, 0, 0), -14);
    }

    private static TillTheBell chained() {
        TillTheBell x = Check.of(TOWN);
        Check.is("first", x.sell(0, 1, 30), 0);
        x.pass(7);
        Check.is("other thing", x.sell(2, 3, 0), 1);
        Check.is("second", x.sell(0, 2, 70), 2);
        return x;
    }

    private static void aChain() {
        TillTheBell x = chained();
        int[] first = {0, 0, 1, 30, 1, 0, 20, 20};
        int[] gift = {2, 2, 3, 0, 1, 7, 0, 0};
        int[] second = {0, 1, 2, 70, 1, 7, 20, 10};
        for (int what = 0; what < 8; what++) {
            Check.is("deed 0, " + what, x.deed(0, what), first[what]);
            Check.is("deed 1, " + what, x.deed(1, what), gift[what]);
            Check.is("deed 2, " + what, x.deed(2, what), second[what]);
        }
        Check.throwsA(NoSuchElementException.class, "deed 3", () -> x.deed(3, 0));
        Check.throwsA(NoSuchElementException.class, "deed -1, told first", () -> x.deed(-1, 8));
        Check.throwsA(IllegalArgumentException.class, "deed what 8", () -> x.deed(0, 8));
        Check.throwsA(IllegalArgumentException.class, "deed what -1", () -> x.deed(0, -1));
        Check.is("falls 0", x.falls(0), 5);
        Check.is("falls 1", x.falls(1), 2);
        Check.is("falls 2", x.falls(2), 4);
        Check.throwsA(NoSuchElementException.class, "falls 3", () -> x.falls(3));
        Check.throwsA(NoSuchElementException.class, "falls -1", () -> x.falls(-1));
        Check.is("chain 0", x.chain(0, 0), 0);
        Check.is("chain 1", x.chain(0, 1), 2);
        Check.is("chain 2", x.chain(0, 2), -1);
        Check.is("chain -1", x.chain(0, -1), -1);
        Check.is("chain of thing 1", x.chain(1, 0), -1);
        Check.throwsA(NoSuchElementException.class, "chain of no thing", () -> x.chain(3, 0));
        debts(x);
    }

    private static void debts(TillTheBell x) {
        Check.is("giver owes the middle one twice", x.owes(0, 0, 1), 16);
        Check.is("giver owes the last", x.owes(0, 0, 2), 4);
        Check.is("giver owes nobody else", x.owes(0, 0, 3), 0);
        Check.is("to himself", x.owes(0, 0, 0), 0);
        Check.is("taker owes the giver", x.owes(0, 1, 0), 8);
        Check.is("taker owes the last", x.owes(0, 1, 2), 4);
        Check.is("not of it", x.owes(0, 2, 0), 0);
        Check.is("of the second", x.owes(2, 2, 1), 8);
        Check.is("the first doesn't fall", x.owes(2, 2, 0), 0);
        Check.throwsA(NoSuchElementException.class, "owes: no deed", () -> x.owes(3, 0, 1));
        Check.throwsA(NoSuchElementException.class, "owes: nobody", () -> x.owes(0, 4, 1));
        Check.throwsA(NoSuchElementException.class, "owes: to nobody", () -> x.owes(0, 0, -1));
        x.share(49);
        Check.is("each is cut by itself: 9.8 and 9.8", x.owes(0, 0, 1), 18);
    }

    private static void undoing() {
        TillTheBell x = chained();
        Check.is("both fall", x.undo(0, 0), 2);
        Check.is("coins of the first", x.person(0, 0), 80);
        Check.is("coins of the middle one", x.person(1, 0), 216);
        Check.is("coins of the last", x.person(2, 0), 304);
        Check.is("back with the first", x.holder(0), 0);
        Check.is("it doesn't stand", x.deed(0, 4), 0);
        Check.is("nor the later", x.deed(2, 4), 0);
        Check.is("the gift does", x.deed(1, 4), 1);
        Check.is("falls: it doesn't stand", x.falls(0), 0);
        Check.is("owes: it doesn't stand", x.owes(0, 0, 1), 0);
        Check.is("no chain", x.chain(0, 0), -1);
        Check.is("coins of all", x.count(9), 600);
        Check.is("a new deed behind undone ones", x.sell(0, 2, 1), 3);
        Check.is("falls alone", x.falls(3), 8);
        TillTheBell y = chained();
        Check.is("only the later falls", y.undo(2, 2), 1);
        Check.is("back with the middle one", y.holder(0), 1);
        Check.is("the middle one: 70 less, 8 more", y.person(1, 0), 178);
        Check.is("the last: 70 more, 8 less", y.person(2, 0), 292);
        Check.is("the first one stands", y.falls(0), 1);
    }

    private static void coinsBelowNothing() {
        TillTheBell x = Check.of("people 3;coins 1 50;thing 0 10 40;thing 2;thing 2;share 50;");
        x.sell(0, 1, 30);
        x.sell(1, 0, 30);
        Check.is("the giver can't give 30 back", x.may(0, 0), 6);
        Check.is("so he doesn't", x.undo(0, 0), -16);
        Check.is("the taker can", x.may(0, 1), 0);
        Check.is("he does", x.undo(0, 1), 1);
        Check.is("the giver is below 0", x.person(0, 0), -20);
        Check.is("the taker", x.person(1, 0), 40);
        Check.is("who has -20 can't take a gift", x.sell(2, 0, 0), -13);
        Check.is("0 behind it is enough", Check.of("people 2;coins 1 9;thing 0;").sell(0, 1, 9), 0);
        TillTheBell y = Check.of("people 2;coins 1 9;thing 0 0 9;");
        y.sell(0, 1, 9);
        Check.is("down to 0", y.undo(0, 0), 1);
        Check.is("it is 0", y.person(0, 0), 0);
    }

    private static void whyNot() {
        TillTheBell x = chained();
        Check.is("may", x.may(0, 0), 0);
        Check.is("no such deed", x.may(3, 0), 1);
        Check.is("no such deed", x.may(-1, 0), 1);
        Check.is("not his", x.may(0, 2), 3);
        Check.throwsA(NoSuchElementException.class, "may nobody", () -> x.may(0, 4));
        Check.throwsA(NoSuchElementException.class, "undo nobody", () -> x.undo(0, -1));
        Check.throwsA(NoSuchElementException.class, "undo nothing, nobody", () -> x.undo(9, 9));
        Check.is("undo: no such deed", x.undo(3, 0), -11);
        Check.is("undo: not his", x.undo(2, 0), -13);
        x.eat(0);
        Check.is("eaten", x.may(0, 0), 5);
        Check.is("undo: eaten", x.undo(0, 0), -15);
        Check.is("not his is less than eaten", x.may(0, 3), 3);
        x.undo(1, 2);
        Check.is("undone", x.may(1, 2), 2);
        Check.is("undone is less than not his", x.may(1, 0), 2);
        Check.is("undo: undone", x.undo(1, 2), -12);
        x.pass(600);
        Check.is("rung is less than eaten", x.may(0, 0), 4);
        Check.is("undo: rung", x.undo(0, 0), -14);
        Check.is("owes all the same", x.owes(0, 0, 1), 16);
        Check.is("would fall all the same", x.falls(0), 5);
    }

    private static void toldUndoings() {
        TillTheBell x = chained();
        Check.throwsA(NoSuchElementException.class, "judge tray 4", () -> x.judge(4, 9));
        Check.throwsA(NoSuchElementException.class, "perform tray -1", () -> x.perform(-1));
        Check.throwsA(IllegalStateException.class, "judge a missing one, told ahead of what", () -> x.judge(1, 9));
        Check.throwsA(IllegalStateException.class, "perform a missing one", () -> x.perform(1));
        Check.fill(x, 0, 0, 5, 2, 0);
        Check.throwsA(IllegalArgumentException.class, "judge what 3", () -> x.judge(0, 3));
        Check.throwsA(IllegalArgumentException.class, "judge what -1", () -> x.judge(0, -1));
        judged(x, 0, -1, 0, 0);
        Check.fill(x, 1, 3, 5, 6);
        judged(x, 1, 1, 1, 2);
        Check.fill(x, 1, 3, -1);
        judged(x, 1, 0, 1, 3);
        Check.fill(x, 1, 3, 1L << 32);
        judged(x, 1, 0, 1, 3);
        Check.fill(x, 1, 1, 1, 5, 2);
        judged(x, 1, 1, 2, 1);
        Check.fill(x, 1, 1);
        judged(x, 1, -1, 0, 3);
        Check.is("judging changes nothing", x.count(4), 3);
        Check.is("nor coins", x.person(2, 0), 230);
        Check.fill(x, 1, 1, 4, 5, 2);
        Check.is("one is done", x.perform(1), 1);
        Check.is("by its giver: 240 - 70 - 4", x.person(1, 0), 166);
        Check.is("the others stand", x.count(4), 2);
        Check.is("all three would be too many", x.perform(0), 0);
        Check.fill(x, 2, 2, 2, 0);
        Check.is("two are done", x.perform(2), 2);
        Check.is("none stands", x.count(4), 0);
    }

    private static void judged(TillTheBell x, int tray, int place, int why, int stand) {
        Check.is("judge: place", x.judge(tray, 0), place);
        Check.is("judge: why", x.judge(tray, 1), why);
        Check.is("judge: stand", x.judge(tray, 2), stand);
    }

    private static void days() {
        TillTheBell none = Check.of("people 3;coins 0 5;");
        Check.is("no things", none.day(1, 40), 0);
        Check.throwsA(IllegalArgumentException.class, "day of 0 times", () -> none.day(1, 0));
        Check.throwsA(IllegalArgumentException.class, "day of 41 times", () -> none.day(1, 41));
        for (int seed : new int[] {0, 1, -1, 77, Integer.MIN_VALUE, 123456789}) {
            for (int times : new int[] {1, 2, 17, 40}) {
                oneDay(seed, times);
            }
        }
    }

    /** The draws once more, by long arithmetic, as calls of sell and undo on another object. */
    private static void oneDay(int seed, int times) {
        TillTheBell x = Check.of(TOWN);
        TillTheBell y = Check.of(TOWN);
        long[] state = {seed & 0xffffffffL};
        int done = 0;
        for (int i = 0; i < times; i++) {
            if (draw(state) % 3 != 2) {
                int thing = draw(state) % 3;
                int to = draw(state) % 4;
                done += y.sell(thing, to, draw(state) % 100) >= 0 ? 1 : 0;
            } else if (y.count(3) > 0) {
                int d = draw(state) % y.count(3);
                done += y.undo(d, y.deed(d, draw(state) % 2 == 0 ? 1 : 2)) > 0 ? 1 : 0;
            }
        }
        Check.is("day " + seed + ", " + times, x.day(seed, times), done);
        for (int what = 0; what < 12; what++) {
            Check.is("behind the day: count " + what, x.count(what), y.count(what));
        }
        for (int p = 0; p < 4; p++) {
            Check.is("behind the day: coins " + p, x.person(p, 0), y.person(p, 0));
        }
    }

    private static int draw(long[] state) {
        state[0] = (1103515245L * state[0] + 12345L) & 0xffffffffL;
        return (int) (state[0] >> 16);
    }
}
