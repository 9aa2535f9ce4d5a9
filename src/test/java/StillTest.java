import java.util.NoSuchElementException;

/**
 * "A call that throws changes nothing." Each throw and each refusal of each promise, on one of two twins; behind it both must be
 * alike in all that can be asked. And so for calls that only look ahead: judge, end, news and their like.
 */
public final class StillTest {
    private static final Class<NoSuchElementException> NO_SUCH = NoSuchElementException.class;
    private static final Class<IllegalArgumentException> ARGUMENT = IllegalArgumentException.class;
    private static final Class<IllegalStateException> STATE = IllegalStateException.class;
    private static final Class<IndexOutOfBoundsException> PLACE = IndexOutOfBoundsException.class;

    public static void main(String[] args) {
        theTwinsTell();
        feedAndTown();
        personsAndThings();
        minutes();
        refusedSales();
        refusedUndoings();
        deedsAndTrays();
        gainsAndPrices();
        ends();
        hopes();
        traysAndImages();
        lookingOnly();
        newObjects();
        Check.end("StillTest");
    }

    /** Something of everything: open, undone and eaten deeds, trays of three sorts, two images, a fault and bytes on the tape. */
    private static TillTheBell rich() {
        TillTheBell x = Check.of("people 3;coins 0 50;coins 1 200;coins 2 300;thing 0 10 50 80;thing 1 30 20 90;thing 2 5;share 40;bell 600;");
        x.image(2);
        x.sell(0, 1, 30);
        x.pass(5);
        x.sell(0, 2, 70);
        x.sell(1, 2, 95);
        x.image(0);
        x.sell(2, 0, 3);
        x.undo(2, 2);
        x.eat(2);
        x.pass(5);
        Check.fill(x, 0, 0, 3, 0);
        Check.fill(x, 1, 1, 90, 40);
        Check.fill(x, 2, 3, 9999, 0, 77);
        Check.tell(x, "people 3;coins 9 1;");
        Check.feed(x, "people 2;coins 1 7;");
        return x;
    }

    private static TillTheBell rung() {
        TillTheBell x = rich();
        x.pass(599);
        return x;
    }

    private static TillTheBell fullOfDeeds() {
        TillTheBell x = rich();
        for (int i = 4; i < 30; i++) {
            x.sell(1, 2 - 2 * (i % 2), 0);
        }
        return x;
    }

    /** Person 0 would gain 10 by deed 0 and has no coins to give 30 back; nobody else gains. */
    private static TillTheBell poor() {
        TillTheBell x = Check.of("people 3;coins 1 50;thing 0 40 40;thing 2 30;share 0;");
        x.sell(0, 1, 30);
        x.sell(1, 0, 30);
        x.image(1);
        return x;
    }

    private static TillTheBell fullTape() {
        TillTheBell x = rich();
        for (int i = 0; i < 44; i++) {
            x.feed(0x20202020, 0x20202020, 0x20202020, 0x20202020, 0x20202020);
        }
        return x;
    }

    private static TillTheBell fresh() {
        return new TillTheBell();
    }

    private static void theTwinsTell() {
        Check.is("rich: deeds", rich().count(3), 4);
        Check.is("rich: two are open", rich().open(), 3);
        Check.is("rich: a fault", rich().fault(0), 3);
        Check.is("full: thirty deeds", fullOfDeeds().count(3), 30);
        Check.is("full tape", fullTape().count(11), 900);
    }

    private static void no(Class<? extends RuntimeException> due, String what, Still.Asked call) {
        Still.thrown(due, what, StillTest::rich, call);
    }

    private static void refuses(String what, long due, Still.Asked call) {
        Still.answers(what, StillTest::rich, due, call);
    }

    private static void feedAndTown() {
        Still.answers("feed beyond 900", StillTest::fullTape, -1, x -> x.feed(-1, -1, -1, -1, -1));
        for (int n : new int[] {-1, 21, 901, Integer.MIN_VALUE, Integer.MAX_VALUE}) {
            no(ARGUMENT, "town " + n, x -> x.town(n));
        }
        Still.thrown(ARGUMENT, "town 901", StillTest::fullTape, x -> x.town(901));
        for (int what : new int[] {-1, 2}) {
            refuses("fault " + what, -1, x -> x.fault(what));
        }
        badTexts();
    }

    /** "(all stays)": but for the tape and the FAULT; so the twins have had a text of nothing but a like fault. */
    private static void badTexts() {
        String[] beginnings = {"people 3;coins 0 9;", "people 1;thing 0 7;", "people 3;thing 2;eaten 0;", "people 3;bell 7;", "people 3;share 7;",
            "people 3;thing 0;worth 0 0 9;", "people 6;thing 5;thing 4;thing 3;thing 2;"};
        for (String beginning : beginnings) {
            for (String end : new String[] {"?", "x"}) {
                Still.Made made = () -> withFault(" ".repeat(beginning.length()) + end);
                Still.answers("a bad text: " + beginning + end, made, end.equals("?") ? -11 : -12, x -> Check.tell(x, beginning + end));
            }
        }
    }

    private static TillTheBell withFault(String text) {
        TillTheBell x = rich();
        x.image(1);
        x.town(0);
        x.restore(1);
        Check.tell(x, text);
        return x;
    }

    private static void personsAndThings() {
        for (int p : new int[] {-1, 3}) {
            no(NO_SUCH, "person " + p, x -> x.person(p, 0));
            no(NO_SUCH, "worth to " + p, x -> x.worth(0, p));
        }
        no(ARGUMENT, "person, what -1", x -> x.person(0, -1));
        no(ARGUMENT, "person, what 3", x -> x.person(0, 3));
        for (int t : new int[] {-1, 3, 31, 32}) {
            no(NO_SUCH, "worth of " + t, x -> x.worth(t, 0));
            no(NO_SUCH, "holder of " + t, x -> x.holder(t));
            no(NO_SUCH, "eat " + t, x -> x.eat(t) ? 1 : 0);
        }
        refuses("eat again", 0, x -> x.eat(2) ? 1 : 0);
    }

    private static void minutes() {
        for (int minutes : new int[] {-1, 1000, Integer.MIN_VALUE, Integer.MAX_VALUE}) {
            no(ARGUMENT, "pass " + minutes, x -> x.pass(minutes));
            Still.thrown(ARGUMENT, "pass " + minutes + ", rung", StillTest::rung, x -> x.pass(minutes));
        }
        refuses("pass 0", 10, x -> x.pass(0));
        no(STATE, "morning", x -> x.morning());
        for (int times : new int[] {-1, 0, 41, Integer.MIN_VALUE, Integer.MAX_VALUE}) {
            no(ARGUMENT, "day of " + times, x -> x.day(5, times));
        }
        Still.answers("a day behind the bell", StillTest::rung, 0, x -> x.day(5, 40));
        for (int n : new int[] {-1, 101}) {
            no(ARGUMENT, "share " + n, x -> x.share(n));
        }
    }

    private static void refusedSales() {
        int[][] sales = {{-1, 1, 0, -11}, {3, 1, 0, -11}, {0, -1, 0, -11}, {0, 3, 0, -11}, {0, 2, 0, -11}, {0, 1, -1, -12}, {0, 1, 10000, -12},
            {0, 1, 271, -13}, {0, 0, 78, -13}, {2, 1, 0, -15}, {2, 1, 5, -15}};
        for (int[] s : sales) {
            refuses("sell " + s[0] + ", " + s[1] + ", " + s[2], s[3], x -> x.sell(s[0], s[1], s[2]));
        }
        Still.answers("sell behind the bell", StillTest::rung, -14, x -> x.sell(0, 1, 5));
        Still.answers("sell a 31st", StillTest::fullOfDeeds, -16, x -> x.sell(0, 1, 5));
    }

    private static void refusedUndoings() {
        int[][] undoings = {{-1, 0, 1}, {4, 0, 1}, {2, 1, 2}, {2, 0, 2}, {0, 2, 3}, {1, 0, 3}, {3, 0, 5}, {3, 2, 5}};
        for (int[] u : undoings) {
            refuses("may " + u[0] + ", " + u[1], u[2], x -> x.may(u[0], u[1]));
            refuses("undo " + u[0] + ", " + u[1], -10 - u[2], x -> x.undo(u[0], u[1]));
        }
        refuses("may", 0, x -> x.may(0, 1));
        Still.answers("undo behind the bell", StillTest::rung, -14, x -> x.undo(0, 0));
        Still.answers("undo without coins", StillTest::poor, -16, x -> x.undo(0, 0));
        for (int p : new int[] {-1, 3}) {
            no(NO_SUCH, "may by " + p, x -> x.may(0, p));
            no(NO_SUCH, "undo by " + p, x -> x.undo(0, p));
        }
    }

    private static void deedsAndTrays() {
        for (int d : new int[] {-1, 4, 31, 32}) {
            no(NO_SUCH, "deed " + d, x -> x.deed(d, 0));
            no(NO_SUCH, "falls " + d, x -> x.falls(d));
            no(NO_SUCH, "owes " + d, x -> x.owes(d, 0, 1));
            no(NO_SUCH, "gain " + d, x -> x.gain(d, 0));
            no(NO_SUCH, "pledge " + d, x -> x.pledge(d));
        }
        no(ARGUMENT, "deed, what 8", x -> x.deed(0, 8));
        no(ARGUMENT, "deed, what -1", x -> x.deed(0, -1));
        no(NO_SUCH, "owes by 3", x -> x.owes(0, 3, 1));
        no(NO_SUCH, "owes to 3", x -> x.owes(0, 1, 3));
        no(NO_SUCH, "chain of 3", x -> x.chain(3, 0));
        for (int t : new int[] {-1, 4}) {
            no(NO_SUCH, "judge " + t, x -> x.judge(t, 0));
            no(NO_SUCH, "perform " + t, x -> x.perform(t));
        }
        no(STATE, "judge a missing one", x -> x.judge(3, 0));
        no(STATE, "perform a missing one", x -> x.perform(3));
        no(ARGUMENT, "judge, what -1", x -> x.judge(0, -1));
        no(ARGUMENT, "judge, what 3", x -> x.judge(0, 3));
        refuses("perform what can't be", 0, x -> x.perform(1));
        Still.answers("perform behind the bell", StillTest::rung, 0, x -> x.perform(0));
    }

    private static void gainsAndPrices() {
        no(NO_SUCH, "gain by -1", x -> x.gain(0, -1));
        no(NO_SUCH, "gain by 3", x -> x.gain(0, 3));
        no(NO_SUCH, "debt of 3", x -> x.debt(3, 0));
        no(ARGUMENT, "debt, what 2", x -> x.debt(0, 2));
        no(NO_SUCH, "safePrice of 3", x -> x.safePrice(3, 1, 0));
        no(NO_SUCH, "safePrice to 3", x -> x.safePrice(0, 3, 0));
        no(STATE, "safePrice to its holder", x -> x.safePrice(0, 2, 0));
        no(ARGUMENT, "safePrice, what 2", x -> x.safePrice(0, 1, 2));
        no(NO_SUCH, "bidder of 3", x -> x.bidder(3));
        Still.answers("unravel without coins", StillTest::poor, 0, x -> x.unravel());
        Still.answers("unravel behind the bell", StillTest::rung, 0, x -> x.unravel());
    }

    private static void ends() {
        no(NO_SUCH, "keeper of 3", x -> x.keeper(3, 1));
        for (int r : new int[] {0, 3}) {
            no(ARGUMENT, "keeper, rounds " + r, x -> x.keeper(0, r));
            no(ARGUMENT, "end, rounds " + r, x -> x.end(r, 0));
        }
        for (int what : new int[] {-1, 2, 9, 13, 99, 103}) {
            no(ARGUMENT, "end, what " + what, x -> x.end(1, what));
        }
        for (int p : new int[] {-1, 3}) {
            no(NO_SUCH, "endFrom " + p, x -> x.endFrom(p));
            no(NO_SUCH, "ringer " + p, x -> x.ringer(p));
            no(NO_SUCH, "news to " + p, x -> x.news(0, p, 5));
        }
        no(NO_SUCH, "news of 3", x -> x.news(3, 0, 5));
        no(ARGUMENT, "news of -1", x -> x.news(0, 0, -1));
        no(ARGUMENT, "news of 1000", x -> x.news(0, 0, 1000));
        Still.answers("end, too many", StillTest::fullOfDeeds, -100000, x -> x.end(2, 0));
        Still.answers("keeper, too many", StillTest::fullOfDeeds, -100000, x -> x.keeper(0, 1));
        Still.answers("endFrom, too many", StillTest::fullOfDeeds, -100000, x -> x.endFrom(1));
        Still.answers("ringer, too many", StillTest::fullOfDeeds, -100000, x -> x.ringer(1));
        Still.answers("news, too many", StillTest::fullOfDeeds, -100000, x -> x.news(0, 0, 999));
        Still.answers("bestShare, too many", StillTest::fullOfDeeds, -100000, x -> x.bestShare());
    }

    private static void hopes() {
        no(NO_SUCH, "hope by 4", x -> x.hope(4, 1, 1, 0));
        no(NO_SUCH, "hope of tray 4", x -> x.hope(0, 4, 1, 0));
        no(STATE, "hope of a missing one", x -> x.hope(0, 3, 1, 0));
        no(STATE, "hope by an undone one", x -> x.hope(2, 1, 1, 0));
        no(STATE, "hope by an eaten one", x -> x.hope(3, 1, 1, 0));
        no(ARGUMENT, "hope in 0", x -> x.hope(0, 1, 0, 0));
        no(ARGUMENT, "hope in 7", x -> x.hope(0, 1, 7, 0));
        no(ARGUMENT, "hope, what 3", x -> x.hope(0, 1, 1, 3));
        no(ARGUMENT, "hope, what -1", x -> x.hope(0, 1, 1, -1));
        Still.thrown(STATE, "hope behind the bell", StillTest::rung, x -> x.hope(0, 1, 1, 0));
        long[][] rows = {{}, {1, 2, 3, 4, 5, 6, 7}, {5, -1}, {10000, 5}};
        for (long[] row : rows) {
            Still.thrown(ARGUMENT, "hope of " + row.length + " wrong offers", () -> withOffers(row), x -> x.hope(0, 3, 1, 0));
        }
        refuses("hope that never takes", -1, x -> x.hope(1, 0, 1, 2));
    }

    private static TillTheBell withOffers(long... row) {
        TillTheBell x = rich();
        Check.fill(x, 3, 3, row);
        return x;
    }

    private static void traysAndImages() {
        no(NO_SUCH, "tray 4", x -> laid(x, 4, 0, 1));
        no(NO_SUCH, "tray -1", x -> laid(x, -1, 0, 1));
        for (int t = 0; t < 4; t++) {
            int tray = t;
            no(ARGUMENT, "sort -1", x -> laid(x, tray, -1, 1));
            no(ARGUMENT, "sort 4", x -> laid(x, tray, 4, 1));
            no(ARGUMENT, "-1 places", x -> laid(x, tray, 2, -1));
            no(ARGUMENT, "41 places", x -> laid(x, tray, 2, 41));
        }
        no(NO_SUCH, "write to 4", x -> x.write(4, 0, 1));
        no(STATE, "write to a missing one", x -> x.write(3, 0, 1));
        no(PLACE, "write to -1", x -> x.write(2, -1, 1));
        no(PLACE, "write to 3", x -> x.write(2, 3, 1));
        no(NO_SUCH, "pour into 4", x -> x.pour(4));
        no(STATE, "pour into a missing one", x -> x.pour(3));
        for (int i : new int[] {-1, 3}) {
            no(NO_SUCH, "image " + i, x -> imaged(x, i));
            no(NO_SUCH, "restore " + i, x -> restored(x, i));
        }
        no(STATE, "restore what was not made", x -> restored(x, 1));
        refuses("count -1", -1, x -> x.count(-1));
        refuses("count 12", -1, x -> x.count(12));
    }

    private static long laid(TillTheBell x, int tray, int sort, int many) {
        x.tray(tray, sort, many);
        return 0;
    }

    private static long imaged(TillTheBell x, int i) {
        x.image(i);
        return 0;
    }

    private static long restored(TillTheBell x, int i) {
        x.restore(i);
        return 0;
    }

    private static void lookingOnly() {
        Still.Asked[] calls = {x -> x.judge(0, 0), x -> x.judge(0, 1), x -> x.judge(0, 2), x -> x.judge(1, 2), x -> x.end(1, 0), x -> x.end(2, 1),
            x -> x.end(1, 12), x -> x.end(2, 105), x -> x.keeper(0, 2), x -> x.endFrom(2), x -> x.ringer(1), x -> x.news(0, 0, 999), x -> x.news(0, 2, 0),
            x -> x.bestShare(), x -> x.hope(0, 1, 6, 0), x -> x.hope(1, 2, 3, 2), x -> x.safePrice(0, 1, 0), x -> x.safePrice(1, 2, 1), x -> x.open(), x -> x.safe(),
            x -> x.tempted(), x -> x.gain(0, 0), x -> x.pledge(0), x -> x.falls(0), x -> x.owes(0, 0, 1), x -> x.chain(0, 1), x -> x.debt(1, 0), x -> x.longest(),
            x -> x.bidder(0), x -> x.swaps(-1), x -> x.swaps(0), x -> x.threes(-1), x -> x.misplaced(), x -> x.may(0, 0), x -> x.fault(0), x -> x.count(10)};
        for (int i = 0; i < calls.length; i++) {
            Still.keeps("looking " + i, StillTest::rich, calls[i]);
            Still.keeps("looking " + i + ", full", StillTest::fullOfDeeds, calls[i]);
        }
    }

    /** Where there is nobody at all. */
    private static void newObjects() {
        Still.Made made = StillTest::fresh;
        Still.thrown(ARGUMENT, "new: town 1", made, x -> x.town(1));
        Still.thrown(NO_SUCH, "new: person", made, x -> x.person(0, 0));
        Still.thrown(NO_SUCH, "new: worth", made, x -> x.worth(0, 0));
        Still.thrown(NO_SUCH, "new: holder", made, x -> x.holder(0));
        Still.thrown(NO_SUCH, "new: eat", made, x -> x.eat(0) ? 1 : 0);
        Still.thrown(STATE, "new: morning", made, x -> x.morning());
        Still.answers("new: sell", made, -11, x -> x.sell(0, 0, 0));
        Still.thrown(NO_SUCH, "new: may", made, x -> x.may(0, 0));
        Still.thrown(NO_SUCH, "new: undo", made, x -> x.undo(0, 0));
        Still.thrown(STATE, "new: judge", made, x -> x.judge(0, 0));
        Still.thrown(STATE, "new: pour", made, x -> x.pour(0));
        Still.thrown(STATE, "new: restore", made, x -> restored(x, 0));
        Still.thrown(NO_SUCH, "new: hope", made, x -> x.hope(0, 0, 1, 0));
        Still.answers("new: day", made, 0, x -> x.day(5, 40));
        Still.answers("new: unravel", made, 0, x -> x.unravel());
        Still.answers("new: bestShare", made, 0, x -> x.bestShare());
        Still.answers("new: town 0", made, 0, x -> x.town(0));
    }
}
