import java.util.NoSuchElementException;

/** Promises 5 to 10, and what "Terms" says of MINUTE and WEALTH, each bound on both sides. */
public final class EdgesOfTownTest {
    private static final int[] FAR = {Integer.MIN_VALUE, -1000, 1000, Integer.MAX_VALUE};

    public static void main(String[] args) {
        p5Person();
        coinsBelowNothing();
        p6Worth();
        p7Holder();
        p8Eat();
        p9Pass();
        theBell();
        p10Morning();
        manyMornings();
        Check.end("EdgesOfTownTest");
    }

    private static String town(int people, int things) {
        StringBuilder text = new StringBuilder("people " + people + ";");
        for (int p = 0; p < people; p++) {
            text.append("coins ").append(p).append(' ').append(100 + p).append(';');
        }
        for (int t = 0; t < things; t++) {
            text.append("thing ").append(people - 1).append(' ').append(t + 1).append(';');
        }
        return text.toString();
    }

    /** "what 0: COINS, 1: WEALTH, 2: how many THINGS he HOLDS. NoSuchElementException: no such PERSON ..: another what." */
    private static void p5Person() {
        for (int n = 1; n <= 6; n++) {
            int people = n;
            TillTheBell x = Check.of(town(n, 2) + "worth 1 " + (n - 1) + " 7;");
            int first = n == 1 ? 1 : 0;
            Check.is("coins of the first", x.person(0, 0), 100);
            Check.is("things of the first", x.person(0, 2), n == 1 ? 2 : 0);
            Check.is("coins of the last", x.person(n - 1, 0), 99 + n);
            Check.is("wealth of the last", x.person(n - 1, 1), 99 + n + 7 + first);
            Check.is("things of the last", x.person(n - 1, 2), 2);
            Check.throwsA(NoSuchElementException.class, "person -1 of " + n, () -> x.person(-1, 0));
            Check.throwsA(NoSuchElementException.class, "person " + n + " of " + n, () -> x.person(people, 0));
            Check.throwsA(NoSuchElementException.class, "told first", () -> x.person(people, 3));
            Check.throwsA(IllegalArgumentException.class, "what -1", () -> x.person(people - 1, -1));
            Check.throwsA(IllegalArgumentException.class, "what 3", () -> x.person(people - 1, 3));
        }
        TillTheBell x = Check.of(town(6, 10));
        Check.is("all ten", x.person(5, 2), 10);
        for (int far : FAR) {
            Check.throwsA(NoSuchElementException.class, "person " + far, () -> x.person(far, 0));
            Check.throwsA(IllegalArgumentException.class, "what " + far, () -> x.person(0, far));
        }
        Check.throwsA(NoSuchElementException.class, "nobody", () -> new TillTheBell().person(0, 0));
    }

    /** "COINS may be below 0 by undoings."; "WEALTH of a PERSON: COINS, and WORTH to him of all THINGS he HOLDS." */
    private static void coinsBelowNothing() {
        TillTheBell x = Check.of("people 3;coins 1 50;thing 0 10 50;thing 2;share 0;");
        x.sell(0, 1, 50);
        x.sell(1, 0, 45);
        Check.is("5 are left", x.person(0, 0), 5);
        Check.is("the taker undoes it", x.undo(0, 1), 1);
        Check.is("coins", x.person(0, 0), -45);
        Check.is("wealth", x.person(0, 1), -35);
        Check.is("coins of all", x.count(9), 50);
        Check.is("wealth of all", x.count(10), 60);
    }

    /** "WORTH of a THING to a PERSON. NoSuchElementException: no such THING, PERSON (as everywhere)." */
    private static void p6Worth() {
        TillTheBell x = Check.of(town(6, 10) + "worth 9 5 999;worth 0 5 0;");
        Check.is("the first", x.worth(0, 0), 1);
        Check.is("the last to the first", x.worth(9, 0), 10);
        Check.is("the last to the last", x.worth(9, 5), 999);
        Check.is("nothing", x.worth(0, 5), 0);
        Check.throwsA(NoSuchElementException.class, "thing -1", () -> x.worth(-1, 0));
        Check.throwsA(NoSuchElementException.class, "thing 10", () -> x.worth(10, 0));
        Check.throwsA(NoSuchElementException.class, "person -1", () -> x.worth(0, -1));
        Check.throwsA(NoSuchElementException.class, "person 6", () -> x.worth(0, 6));
        TillTheBell y = Check.of(town(1, 1));
        Check.is("of one", y.worth(0, 0), 1);
        Check.throwsA(NoSuchElementException.class, "thing 1 of one", () -> y.worth(1, 0));
        Check.throwsA(NoSuchElementException.class, "person 1 of one", () -> y.worth(0, 1));
        for (int far : FAR) {
            Check.throwsA(NoSuchElementException.class, "thing " + far, () -> x.worth(far, 0));
            Check.throwsA(NoSuchElementException.class, "person " + far, () -> x.worth(0, far));
        }
    }

    /** "The HOLDER of a THING." */
    private static void p7Holder() {
        TillTheBell x = Check.of(town(6, 10));
        Check.is("of the first", x.holder(0), 5);
        Check.is("of the last", x.holder(9), 5);
        x.sell(9, 0, 1);
        Check.is("then", x.holder(9), 0);
        Check.throwsA(NoSuchElementException.class, "thing -1", () -> x.holder(-1));
        Check.throwsA(NoSuchElementException.class, "thing 10", () -> x.holder(10));
        TillTheBell none = Check.of("people 2;");
        Check.throwsA(NoSuchElementException.class, "thing 0 of none", () -> none.holder(0));
        for (int far : FAR) {
            Check.throwsA(NoSuchElementException.class, "thing " + far, () -> x.holder(far));
        }
    }

    /** "A THING becomes EATEN (true: it was not)." */
    private static void p8Eat() {
        TillTheBell x = Check.of(town(2, 10) + "eaten 4;");
        Check.yes("the first", x.eat(0));
        Check.is("bits", x.count(8), 17);
        Check.yes("the last", x.eat(9));
        Check.is("bits", x.count(8), 529);
        Check.yes("the first again", !x.eat(0));
        Check.yes("told as eaten", !x.eat(4));
        Check.is("as they were", x.count(8), 529);
        Check.throwsA(NoSuchElementException.class, "thing -1", () -> x.eat(-1));
        Check.throwsA(NoSuchElementException.class, "thing 10", () -> x.eat(10));
        Check.throwsA(NoSuchElementException.class, "thing 32", () -> x.eat(32));
        for (int far : FAR) {
            Check.throwsA(NoSuchElementException.class, "thing " + far, () -> x.eat(far));
        }
        Check.is("bits then", x.count(8), 529);
        x.pass(999);
        Check.yes("behind the bell", x.eat(1));
    }

    /** "So many MINUTES go by (0 to 999): MINUTE then (1000 at most). IllegalArgumentException: how many." */
    private static void p9Pass() {
        TillTheBell x = new TillTheBell();
        Check.is("0 at first", x.count(5), 0);
        Check.is("0", x.pass(0), 0);
        Check.is("1", x.pass(1), 1);
        Check.is("998", x.pass(997), 998);
        Check.is("999", x.pass(1), 999);
        Check.is("1000", x.pass(1), 1000);
        Check.is("at most", x.pass(1), 1000);
        Check.is("at most by 999", x.pass(999), 1000);
        Check.is("by 0", x.pass(0), 1000);
        TillTheBell y = new TillTheBell();
        Check.is("999 at once", y.pass(999), 999);
        Check.is("999 and 2", y.pass(2), 1000);
        TillTheBell z = new TillTheBell();
        z.pass(5);
        for (int wrong : new int[] {-1, 1000, 1001, Integer.MIN_VALUE, Integer.MAX_VALUE}) {
            Check.throwsA(IllegalArgumentException.class, "pass " + wrong, () -> z.pass(wrong));
            Check.is("5 still", z.count(5), 5);
        }
    }

    /** "The BELL HAS RUNG from MINUTE bell on." */
    private static void theBell() {
        for (int bell : new int[] {1, 2, 500, 998, 999}) {
            rings(Check.of(town(2, 2) + "bell " + bell + ";"), bell);
        }
        rings(Check.of(town(2, 2)), 720);
    }

    private static void rings(TillTheBell x, int bell) {
        x.pass(bell - 1);
        Check.is("a minute ahead of " + bell, x.sell(0, 0, 0), 0);
        Check.is("open", x.open(), 1);
        Check.is("may", x.may(0, 1), 0);
        Check.throwsA(IllegalStateException.class, "no morning", x::morning);
        x.pass(1);
        Check.is("at " + bell, x.sell(1, 0, 0), -14);
        Check.is("none open", x.open(), 0);
        Check.is("may not", x.may(0, 1), 4);
        x.pass(999);
        Check.is("at 1000", x.sell(1, 0, 0), -14);
        Check.is("morning", x.morning(), 1);
    }

    /** "MINUTE 0, no DEEDS (what was done stands for ever): how many STOOD. IllegalStateException: the BELL HAS not RUNG." */
    private static void p10Morning() {
        TillTheBell x = Check.of("people 2;coins 0 40;coins 1 50;thing 0 1 9;thing 1 9 1;thing 0;share 7;bell 10;eaten 2;");
        x.sell(0, 1, 5);
        x.sell(1, 0, 3);
        x.sell(1, 1, 2);
        x.undo(2, 1);
        Check.throwsA(IllegalStateException.class, "at 0", x::morning);
        x.pass(9);
        Check.throwsA(IllegalStateException.class, "at 9", x::morning);
        Check.is("three deeds", x.count(3), 3);
        x.pass(1);
        Check.tell(x, "people 1;?");
        Check.feed(x, "tape");
        Check.fill(x, 3, 1, 300, 5);
        x.image(1);
        Check.is("two stood", x.morning(), 2);
        Check.is("the fault stays", x.fault(1), 9);
        Check.is("the tray stays", x.judge(3, 1), 1);
        Check.throwsA(IndexOutOfBoundsException.class, "with its places", () -> x.write(3, 2, 0));
        int[] due = {9, 2, 3, 0, 0, 0, 7, 10, 4, 90, 108, 20};
        for (int what = 0; what < 12; what++) {
            Check.is("morning: count " + what, x.count(what), due[what]);
        }
        Check.is("holder of 0", x.holder(0), 1);
        Check.is("holder of 1", x.holder(1), 0);
        Check.is("coins of 0", x.person(0, 0), 42);
        Check.is("none to undo", x.may(0, 0), 1);
        Check.throwsA(NoSuchElementException.class, "no deed", () -> x.deed(0, 0));
        Check.is("no chain", x.chain(0, 0), -1);
        Check.is("none stands longest", x.longest(), -1);
        Check.throwsA(IllegalStateException.class, "it has not rung again", x::morning);
        Check.is("from 0 on", x.sell(0, 0, 1), 0);
        Check.is("falls alone", x.falls(0), 1);
        x.undo(0, 0);
        x.pass(10);
        Check.is("none stood", x.morning(), 0);
        x.restore(1);
        Check.is("images stay: the evening ahead of it", x.count(5), 10);
        Check.is("with its deeds", x.count(3), 3);
        Check.is("two stood then", x.morning(), 2);
    }

    /** Thirty deeds a day, day by day. */
    private static void manyMornings() {
        TillTheBell x = Check.of("people 2;thing 0;bell 1;");
        for (int day = 0; day < 3; day++) {
            for (int i = 0; i < 30; i++) {
                Check.is("gift " + i, x.sell(0, 1 - x.holder(0), 0), i);
            }
            Check.is("there are 30", x.sell(0, 1 - x.holder(0), 0), -16);
            x.pass(1);
            Check.is("30 stood", x.morning(), 30);
        }
        Check.throwsA(IllegalStateException.class, "nobody's bell has not rung", () -> new TillTheBell().morning());
        TillTheBell nobody = new TillTheBell();
        nobody.pass(719);
        Check.throwsA(IllegalStateException.class, "719", nobody::morning);
        nobody.pass(1);
        Check.is("720", nobody.morning(), 0);
    }
}
