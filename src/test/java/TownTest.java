import java.util.NoSuchElementException;

/** Promises 5 to 10: people, things, minutes, mornings. */
public final class TownTest {
    private static final String TOWN = "people 4;coins 0 100;coins 1 200;coins 2 300;"
        + "thing 0 10 50 80;thing 1 30 20 90 5;thing 2;thing 0 7;share 40;bell 600;";

    public static void main(String[] args) {
        people();
        things();
        minutes();
        mornings();
        Check.end("TownTest");
    }

    private static void people() {
        TillTheBell x = Check.of(TOWN);
        Check.is("coins", x.person(0, 0), 100);
        Check.is("wealth", x.person(0, 1), 117);
        Check.is("things", x.person(0, 2), 2);
        Check.is("coins of the last", x.person(3, 0), 0);
        Check.is("wealth of the last", x.person(3, 1), 0);
        Check.is("things of the last", x.person(3, 2), 0);
        for (int p : new int[] {-1, 4, 6, Integer.MIN_VALUE, Integer.MAX_VALUE}) {
            Check.throwsA(NoSuchElementException.class, "person " + p, () -> x.person(p, 0));
            Check.throwsA(NoSuchElementException.class, "person told first " + p, () -> x.person(p, 9));
        }
        for (int what : new int[] {-1, 3, Integer.MIN_VALUE}) {
            Check.throwsA(IllegalArgumentException.class, "what " + what, () -> x.person(0, what));
        }
    }

    private static void things() {
        TillTheBell x = Check.of(TOWN);
        Check.is("worth", x.worth(1, 2), 90);
        Check.is("worth of the last", x.worth(1, 3), 5);
        Check.is("worth not told", x.worth(0, 3), 0);
        Check.is("holder", x.holder(2), 2);
        x.sell(2, 3, 0);
        Check.is("holder behind a gift", x.holder(2), 3);
        Check.yes("eat", x.eat(2));
        Check.yes("eat again", !x.eat(2));
        Check.yes("eat another", x.eat(0));
        Check.is("eaten", x.count(8), 5);
        Check.is("an eaten thing is held still", x.person(3, 2), 1);
        Check.is("and worth something still", x.person(0, 1), 117);
        for (int t : new int[] {-1, 4, 10, Integer.MAX_VALUE}) {
            Check.throwsA(NoSuchElementException.class, "worth of thing " + t, () -> x.worth(t, 0));
            Check.throwsA(NoSuchElementException.class, "holder of thing " + t, () -> x.holder(t));
            Check.throwsA(NoSuchElementException.class, "eat thing " + t, () -> x.eat(t));
        }
        Check.throwsA(NoSuchElementException.class, "worth to nobody", () -> x.worth(0, 4));
        Check.throwsA(NoSuchElementException.class, "worth to nobody", () -> x.worth(0, -1));
        Check.yes("eaten by the text", !Check.of("people 1;thing 0;eaten 0;").eat(0));
    }

    private static void minutes() {
        TillTheBell x = Check.of(TOWN);
        Check.is("pass 0", x.pass(0), 0);
        Check.is("pass 999", x.pass(999), 999);
        Check.is("1000 at most", x.pass(999), 1000);
        Check.is("minute", x.count(5), 1000);
        Check.throwsA(IllegalArgumentException.class, "pass -1", () -> x.pass(-1));
        Check.throwsA(IllegalArgumentException.class, "pass 1000", () -> x.pass(1000));
        TillTheBell y = Check.of(TOWN);
        Check.is("pass 599", y.pass(599), 599);
        Check.is("not rung", y.sell(0, 1, 1), 0);
        Check.is("pass 1", y.pass(1), 600);
        Check.is("rung", y.sell(1, 0, 1), -14);
        Check.is("minute of the deed", y.deed(0, 5), 599);
    }

    private static void mornings() {
        TillTheBell x = Check.of(TOWN);
        x.sell(0, 1, 30);
        x.sell(1, 2, 60);
        x.sell(2, 0, 1);
        x.undo(2, 2);
        x.eat(1);
        x.share(33);
        x.pass(599);
        Check.throwsA(IllegalStateException.class, "morning ahead of the bell", x::morning);
        Check.is("deeds are there still", x.count(3), 3);
        x.pass(1);
        Check.is("stood", x.morning(), 2);
        int[] due = {10, 4, 4, 0, 0, 0, 33, 600, 2, 600};
        for (int what = 0; what < due.length; what++) {
            Check.is("morning: count " + what, x.count(what), due[what]);
        }
        Check.is("what was done stands", x.holder(0), 1);
        Check.is("coins stay", x.person(0, 0), 130);
        Check.throwsA(IllegalStateException.class, "morning twice", x::morning);
        Check.throwsA(NoSuchElementException.class, "no deed", () -> x.deed(0, 0));
        Check.is("may: no such deed", x.may(0, 0), 1);
        Check.is("numbers from 0 again", x.sell(0, 2, 5), 0);
    }
}
