import java.util.NoSuchElementException;

/** Promises 31 to 36, and what "Terms" says of THE END, RINGER, NEWS and BEST SHARE, each bound on both sides. */
public final class EdgesOfEndTest {
    private static final int SPENT = -100000;

    public static void main(String[] args) {
        tenAreOpen();
        elevenAreOpen();
        notOpenOnesDontCount();
        p31Keeper();
        p32EndFrom();
        asNumbersBelowPeople();
        p33End();
        turnsOfEnd();
        likeOnes();
        coinsBelowNothing();
        p34Ringer();
        p35News();
        p36BestShare();
        oneRoundAlone();
        fromPersonNoughtOn();
        owedInTheEnd();
        eachEndByItself();
        fullRounds();
        Check.end("EdgesOfEndTest");
    }

    private static TillTheBell gifts(int many) {
        TillTheBell x = Check.of("people 2;thing 0 1 2;thing 0;bell 5;");
        for (int i = 0; i < many; i++) {
            x.sell(0, 1 - i % 2, 0);
        }
        return x;
    }

    /** "At most 10 DEEDS are OPEN, else SPENT (-100000)." */
    private static void tenAreOpen() {
        TillTheBell x = gifts(10);
        Check.is("ten", x.open(), 1023);
        for (int r = 1; r <= 2; r++) {
            Check.yes("end, " + r, x.end(r, 0) != SPENT);
            Check.yes("turns, " + r, x.end(r, 1) != SPENT);
            Check.yes("wealth, " + r, x.end(r, 11) != SPENT);
            Check.yes("first turn, " + r, x.end(r, 100) != SPENT);
            Check.yes("keeper, " + r, x.keeper(1, r) == 0);
        }
        Check.yes("endFrom", x.endFrom(1) != SPENT);
        Check.yes("ringer", x.ringer(0) != SPENT);
        Check.yes("news", x.news(0, 0, 0) != SPENT);
        Check.yes("best share", x.bestShare() != SPENT);
    }

    private static void elevenAreOpen() {
        for (int many : new int[] {11, 12, 30}) {
            TillTheBell x = gifts(many);
            Check.is("so many", x.count(4), many);
            for (int r = 1; r <= 2; r++) {
                int rounds = r;
                Check.is("end, " + r, x.end(r, 0), SPENT);
                Check.is("turns, " + r, x.end(r, 1), SPENT);
                Check.is("wealth, " + r, x.end(r, 11), SPENT);
                Check.is("last turn, " + r, x.end(r, 99 + 2 * r), SPENT);
                Check.is("keeper, " + r, x.keeper(1, r), SPENT);
                Check.throwsA(IllegalArgumentException.class, "no such what", () -> x.end(rounds, 2));
                Check.throwsA(IllegalArgumentException.class, "no such person", () -> x.end(rounds, 12));
                Check.throwsA(IllegalArgumentException.class, "no such turn", () -> x.end(rounds, 100 + 2 * rounds));
            }
            Check.is("endFrom", x.endFrom(0), SPENT);
            Check.is("ringer", x.ringer(1), SPENT);
            Check.is("news", x.news(1, 1, 999), SPENT);
            Check.is("best share", x.bestShare(), SPENT);
            Check.throwsA(IllegalArgumentException.class, "rounds", () -> x.keeper(1, 3));
            Check.throwsA(NoSuchElementException.class, "thing", () -> x.keeper(2, 1));
            Check.throwsA(NoSuchElementException.class, "endFrom nobody", () -> x.endFrom(2));
            Check.throwsA(NoSuchElementException.class, "ringer nobody", () -> x.ringer(-1));
            Check.throwsA(IllegalArgumentException.class, "news of 1000", () -> x.news(1, 1, 1000));
        }
    }

    private static void notOpenOnesDontCount() {
        TillTheBell eaten = gifts(29);
        eaten.sell(1, 1, 0);
        Check.is("thirty", eaten.end(1, 0), SPENT);
        eaten.eat(0);
        Check.is("one is open, and all stand", eaten.end(1, 0), (1 << 30) - 1);
        Check.is("who holds the eaten one", eaten.keeper(0, 2), 1);
        TillTheBell rung = gifts(30);
        rung.pass(4);
        Check.is("at 4", rung.end(2, 0), SPENT);
        rung.pass(1);
        Check.is("at 5", rung.end(2, 0), (1 << 30) - 1);
        Check.is("no turn undoes", rung.end(2, 1), 0);
        Check.is("nor does the last", rung.end(2, 103), -1);
        Check.is("wealth as it is", rung.end(2, 10), 1);
        Check.is("ringer", rung.ringer(0), 0);
        Check.is("best share", rung.bestShare(), 0);
        TillTheBell undone = gifts(11);
        Check.is("one falls", undone.undo(10, 1), 1);
        Check.yes("ten are left", undone.end(1, 0) != SPENT);
    }

    /** Deed 0: 0 sells to 2 for 2 what is worth 9 to him; deed 1: he sells it back for 9, to 0 it is worth 2. */
    private static TillTheBell soldBack() {
        TillTheBell x = Check.of("people 3;coins 0 20;coins 1 20;coins 2 20;thing 0 2 3 9;thing 1;share 0;");
        x.sell(0, 2, 2);
        x.sell(0, 0, 9);
        return x;
    }

    /** "Who HOLDS a THING behind THE END (r rounds); SPENT. IllegalArgumentException: r." */
    private static void p31Keeper() {
        TillTheBell x = soldBack();
        // 0 gains 7 by either deed, and takes the lesser one.
        Check.is("keeper", x.keeper(0, 1), 0);
        Check.is("of what nobody sold", x.keeper(1, 2), 1);
        for (int r : new int[] {-1, 0, 3, Integer.MIN_VALUE, Integer.MAX_VALUE}) {
            Check.throwsA(IllegalArgumentException.class, "rounds " + r, () -> x.keeper(0, r));
            Check.throwsA(IllegalArgumentException.class, "end, rounds " + r, () -> x.end(r, 0));
            Check.throwsA(NoSuchElementException.class, "the thing is told first", () -> x.keeper(2, r));
        }
        for (int thing : new int[] {-1, 2, Integer.MIN_VALUE, Integer.MAX_VALUE}) {
            Check.throwsA(NoSuchElementException.class, "thing " + thing, () -> x.keeper(thing, 1));
        }
        // Only the second of a chain falls: its giver keeps the thing.
        TillTheBell y = Check.of("people 3;thing 0 0 9;share 0;");
        y.sell(0, 1, 0);
        y.sell(0, 2, 0);
        Check.is("the first gift stands", y.end(1, 0), 1);
        Check.is("its taker keeps it", y.keeper(0, 1), 1);
        Check.is("he has it not yet", y.holder(0), 2);
    }

    /** "were PERSON p the first to have a turn, then p and 1, .." */
    private static void p32EndFrom() {
        TillTheBell x = soldBack();
        Check.is("0 first: all fall", x.endFrom(0), 0);
        // 2 is ahead of 0: he takes the second back, lest all fall.
        Check.is("1 first", x.endFrom(1), 1);
        Check.is("2 first", x.endFrom(2), 1);
        Check.is("0 first again", x.endFrom(0), x.end(1, 0));
        for (int p : new int[] {-1, 3, Integer.MIN_VALUE, Integer.MAX_VALUE}) {
            Check.throwsA(NoSuchElementException.class, "endFrom " + p, () -> x.endFrom(p));
        }
        Check.throwsA(NoSuchElementException.class, "nobody", () -> new TillTheBell().endFrom(0));
        Check.is("alone", Check.of("people 1;thing 0;").endFrom(0), 0);
    }

    /**
     * "as numbers below PEOPLE": a sold to b for 70 and has bought it back for 70; to a it is worth 60, to b nothing. Behind b
     * (and only if he has a turn) a would undo the second: then b, ahead of him, undoes both.
     */
    private static void asNumbersBelowPeople() {
        for (int people = 2; people <= 6; people++) {
            for (int a = 0; a < people; a++) {
                for (int b = 0; b < people; b++) {
                    if (a != b) {
                        aroundTheRing(people, a, b);
                    }
                }
            }
        }
    }

    private static void aroundTheRing(int people, int a, int b) {
        TillTheBell x = Check.of("people " + people + ";coins " + a + " 100;coins " + b + " 100;thing " + a + ";worth 0 " + a + " 60;share 0;");
        x.sell(0, b, 70);
        x.sell(0, a, 70);
        for (int first = 0; first < people; first++) {
            boolean aIsAhead = Math.floorMod(a - first, people) < Math.floorMod(b - first, people);
            Check.is(a + " and " + b + " of " + people + ", " + first + " first", x.endFrom(first), aIsAhead ? 3 : 0);
        }
    }

    /** "what 0: .., 1: .., 10 + p: WEALTH of PERSON p then, 100 + k: ..; IllegalArgumentException: r, another what" */
    private static void p33End() {
        for (int n = 0; n <= 6; n++) {
            TillTheBell x = n == 0 ? new TillTheBell() : Check.of("people " + n + ";coins " + (n - 1) + " 7;thing 0 5;");
            for (int r = 1; r <= 2; r++) {
                Check.is("stand", x.end(r, 0), 0);
                Check.is("turns", x.end(r, 1), 0);
                for (int what : new int[] {-1, 2, 9, 10 + n, 16, 99, 100 + r * n, 112, 113, Integer.MIN_VALUE, Integer.MAX_VALUE}) {
                    int rounds = r;
                    Check.throwsA(IllegalArgumentException.class, n + " people, end " + r + ", " + what, () -> x.end(rounds, what));
                }
                if (n > 0) {
                    Check.is("wealth of the first", x.end(r, 10), n == 1 ? 12 : 5);
                    Check.is("wealth of the last", x.end(r, 9 + n), n == 1 ? 12 : 7);
                    Check.is("the first turn", x.end(r, 100), -1);
                    Check.is("the last turn", x.end(r, 99 + r * n), -1);
                }
            }
        }
    }

    /** "the DEED that is UNDONE in turn k (from 0 on; NONE)" */
    private static void turnsOfEnd() {
        // Each of three has given away three things that only he wants: one turn, one undoing.
        TillTheBell x = Check.of("people 3;thing 0 5;thing 1 0 5;thing 2 0 0 5;thing 0 5;thing 1 0 5;thing 2 0 0 5;thing 0 5;thing 1 0 5;thing 2 0 0 5;share 0;");
        for (int t = 0; t < 9; t++) {
            x.sell(t, (t + 1) % 3, 0);
        }
        for (int k = 0; k < 6; k++) {
            Check.is("turn " + k + " of two rounds", x.end(2, 100 + k), k);
            if (k < 3) {
                Check.is("turn " + k + " of one round", x.end(1, 100 + k), k);
            }
        }
        Check.is("one round", x.end(1, 0), 511 - 7);
        Check.is("three turns", x.end(1, 1), 3);
        Check.is("two rounds", x.end(2, 0), 511 - 63);
        Check.is("six turns", x.end(2, 1), 6);
        Check.is("wealth, one round", x.end(1, 12), 5);
        Check.is("wealth, two rounds", x.end(2, 12), 10);
        Check.is("keeper of 8, two rounds", x.keeper(8, 2), 0);
        Check.is("keeper of 5, two rounds", x.keeper(5, 2), 2);
        Check.is("keeper of 5, one round", x.keeper(5, 1), 0);
        Check.throwsA(IllegalArgumentException.class, "turn 3 of one round", () -> x.end(1, 103));
        Check.throwsA(IllegalArgumentException.class, "turn 6 of two rounds", () -> x.end(2, 106));
    }

    /** "of like ones nothing, or the lesser DEED" */
    private static void likeOnes() {
        for (int more = -1; more <= 1; more++) {
            TillTheBell x = Check.of("people 2;coins 1 9;thing 0 " + (4 + more) + " 9;share 0;");
            x.sell(0, 1, 4);
            Check.is("a gain of " + more, x.end(1, 0), more > 0 ? 0 : 1);
        }
        for (int more = -1; more <= 1; more++) {
            TillTheBell x = Check.of("people 2;thing 0 5;thing 0 " + (5 + more) + ";share 0;");
            x.sell(0, 1, 0);
            x.sell(1, 1, 0);
            Check.is("5 and " + (5 + more), x.end(1, 100), more > 0 ? 1 : 0);
        }
    }

    /** "COINS may be below 0 here, and in all of this section" */
    private static void coinsBelowNothing() {
        TillTheBell x = Check.of("people 3;coins 1 10;thing 0 12 10;thing 2 9;share 0;");
        x.sell(0, 1, 10);
        x.sell(1, 0, 10);
        Check.is("he has none to give back", x.person(0, 0), 0);
        Check.is("he may not", x.may(0, 0), 6);
        Check.is("in the end he does", x.end(1, 100), 0);
        Check.is("wealth: -10 and 12 and 9", x.end(1, 10), 11);
        Check.is("the second deed stands", x.end(1, 0), 2);
    }

    /** "his WEALTH now less his WEALTH in THE END" */
    private static void p34Ringer() {
        TillTheBell x = Check.of("people 3;thing 0 9 8;share 50;bell 2;");
        x.sell(0, 1, 0);
        int[] due = {-5, 4, 0};
        for (int p = 0; p < 3; p++) {
            Check.is("ringer " + p, x.ringer(p), due[p]);
            Check.is("as it is told", x.ringer(p), x.person(p, 1) - x.end(1, 10 + p));
        }
        for (int p : new int[] {-1, 3, Integer.MIN_VALUE, Integer.MAX_VALUE}) {
            Check.throwsA(NoSuchElementException.class, "ringer " + p, () -> x.ringer(p));
        }
        x.pass(1);
        Check.is("at 1", x.ringer(0), -5);
        x.pass(1);
        Check.is("at 2", x.ringer(0), 0);
        Check.throwsA(NoSuchElementException.class, "nobody", () -> new TillTheBell().ringer(0));
    }

    /** "THE END (1 round), if a THING were worth something else to a PERSON"; "the WORTH isn't 0 to 999" */
    private static void p35News() {
        TillTheBell x = Check.of("people 3;coins 1 998;thing 0 5 998;thing 2;share 0;");
        x.sell(0, 1, 998);
        Check.is("998 to the giver", x.news(0, 0, 998), 1);
        Check.is("999 to the giver", x.news(0, 0, 999), 0);
        Check.is("0 to the giver", x.news(0, 0, 0), 1);
        Check.is("998 to the taker", x.news(0, 1, 998), 1);
        Check.is("997 to the taker", x.news(0, 1, 997), 0);
        Check.is("0 to the taker", x.news(0, 1, 0), 0);
        Check.is("to a third one", x.news(0, 2, 999), 1);
        Check.is("of another thing", x.news(1, 0, 999), 1);
        Check.is("the worth stays", x.worth(0, 0), 5);
        Check.is("so does the end", x.end(1, 0), 1);
        for (int worth : new int[] {-1, 1000, Integer.MIN_VALUE, Integer.MAX_VALUE}) {
            Check.throwsA(IllegalArgumentException.class, "worth " + worth, () -> x.news(0, 0, worth));
            Check.throwsA(NoSuchElementException.class, "the thing is told first", () -> x.news(2, 0, worth));
            Check.throwsA(NoSuchElementException.class, "the person is told first", () -> x.news(0, 3, worth));
        }
        for (int wrong : new int[] {-1, 3, Integer.MIN_VALUE, Integer.MAX_VALUE}) {
            Check.throwsA(NoSuchElementException.class, "thing " + wrong, () -> x.news(wrong, 0, 5));
            Check.throwsA(NoSuchElementException.class, "person " + wrong, () -> x.news(0, wrong, 5));
        }
    }

    private static void bestIs(int toGiver, int toTaker, int due) {
        TillTheBell x = Check.of("people 2;thing 0 " + toGiver + " " + toTaker + ";share 33;");
        x.sell(0, 1, 0);
        Check.is("best share, " + toGiver + " and " + toTaker, x.bestShare(), due);
        Check.is("it is 33 still", x.count(6), 33);
        for (int share = Math.max(0, due - 1); share <= due; share++) {
            x.share(share);
            Check.is("share " + share, x.end(1, 0), share == due && (due > 0 || toGiver == 0) ? 1 : 0);
        }
    }

    /** "the least share (0 to 100) by which the most DEEDS STAND in THE END (1 round)" */
    private static void p36BestShare() {
        bestIs(0, 0, 0);
        bestIs(0, 9, 0);
        bestIs(9, 999, 1);
        bestIs(1, 100, 1);
        bestIs(99, 100, 99);
        bestIs(100, 100, 100);
        bestIs(999, 999, 100);
        // No share holds it: of like ones the least.
        bestIs(101, 100, 0);
        bestIs(1, 0, 0);
        Check.is("nobody", new TillTheBell().bestShare(), 0);
        Check.is("no deeds", Check.of("people 2;share 70;").bestShare(), 0);
        // Of three gifts at most two can be held: by a share of 20 one, by 50 two.
        TillTheBell x = Check.of("people 4;thing 0 10 50;thing 1 0 10 20;thing 2 0 0 9 0;share 70;");
        x.sell(0, 1, 0);
        x.sell(1, 2, 0);
        x.sell(2, 3, 0);
        Check.is("two of three", x.bestShare(), 50);
    }

    /** RINGER, NEWS, BEST SHARE and endFrom are of one round: two gifts whose giver wants both back. */
    private static void oneRoundAlone() {
        TillTheBell x = Check.of("people 2;thing 0 5;thing 0 5 10;share 0;");
        x.sell(0, 1, 0);
        x.sell(1, 1, 0);
        Check.is("one round", x.end(1, 0), 2);
        Check.is("two rounds", x.end(2, 0), 0);
        Check.is("endFrom", x.endFrom(0), 2);
        Check.is("ringer", x.ringer(0), -5);
        Check.is("news", x.news(0, 1, 1), 2);
        // In one round one falls whatever the share is; in two rounds 50 would save the second.
        Check.is("best share", x.bestShare(), 0);
    }

    /** Their turns begin with PERSON 0: else 1 would undo both deeds (see asNumbersBelowPeople), owing 1. */
    private static void fromPersonNoughtOn() {
        TillTheBell x = Check.of("people 2;coins 0 100;coins 1 100;thing 0 60 0;share 10;");
        x.sell(0, 1, 70);
        x.sell(0, 0, 70);
        Check.is("0 first", x.endFrom(0), 3);
        Check.is("1 first", x.endFrom(1), 0);
        Check.is("end", x.end(1, 0), 3);
        Check.is("ringer of 0", x.ringer(0), 0);
        Check.is("ringer of 1", x.ringer(1), 0);
        Check.is("news that is none", x.news(0, 0, 60), 3);
        Check.is("best share", x.bestShare(), 0);
        Check.is("keeper, where it matters", soldBack().keeper(0, 1), 0);
    }

    /** What the other side is owed counts in the end: the taker gains 10 and owes 5 to the giver, or the giver 3 to the taker. */
    private static void owedInTheEnd() {
        TillTheBell x = Check.of("people 2;coins 1 20;thing 0 10 5;share 50;");
        x.sell(0, 1, 20);
        Check.is("the taker undoes it", x.end(1, 101), 0);
        Check.is("the giver: 0 and 10 and 5", x.end(1, 10), 15);
        Check.is("the taker: 20 less 5", x.end(1, 11), 15);
        Check.is("ringer of the giver", x.ringer(0), 5);
        Check.is("ringer of the taker", x.ringer(1), -10);
        TillTheBell y = Check.of("people 2;thing 0 10 7;share 50;");
        y.sell(0, 1, 0);
        Check.is("the giver undoes it", y.end(1, 100), 0);
        Check.is("the giver: 10 less 3", y.end(1, 10), 7);
        Check.is("the taker has 3", y.end(1, 11), 3);
    }

    /** Chains of one town are none of the next: of two gifts of two things one falls. */
    private static void eachEndByItself() {
        TillTheBell x = Check.of("people 2;thing 0 5;thing 0 5;share 0;");
        x.sell(0, 1, 0);
        x.sell(0, 0, 0);
        x.sell(0, 1, 0);
        Check.is("a chain falls", x.end(1, 0), 0);
        Check.is("at once", x.end(1, 1), 1);
        Check.tell(x, "people 2;thing 0 5;thing 0 5;thing 0 5;share 0;");
        for (int t = 0; t < 3; t++) {
            x.sell(t, 1, 0);
        }
        Check.is("one of three", x.end(1, 0), 6);
        Check.is("two of three", x.end(2, 0), 4);
        Check.is("its keeper", x.keeper(2, 2), 1);
    }

    /** Twelve turns and ten open deeds: five of six people want two gifts back each, one a round. */
    private static void fullRounds() {
        StringBuilder text = new StringBuilder("people 6;share 0;");
        for (int t = 0; t < 10; t++) {
            text.append("thing ").append(t % 5).append(";worth ").append(t).append(' ').append(t % 5).append(" 9;");
        }
        TillTheBell x = Check.of(text.toString());
        for (int t = 0; t < 10; t++) {
            x.sell(t, 5, 0);
        }
        for (int k = 0; k < 12; k++) {
            int due = k % 6 == 5 ? -1 : k < 6 ? k : k - 1;
            Check.is("turn " + k, x.end(2, 100 + k), due);
        }
        Check.is("none stands", x.end(2, 0), 0);
        Check.is("ten turns", x.end(2, 1), 10);
        Check.is("five stand", x.end(1, 0), 1023 - 31);
        Check.is("wealth, one round", x.end(1, 14), 9);
        Check.is("wealth, two rounds", x.end(2, 14), 18);
        Check.is("wealth of the last", x.end(2, 15), 0);
        Check.is("keeper", x.keeper(9, 2), 4);
        Check.is("keeper, one round", x.keeper(9, 1), 5);
        Check.is("from the last on", x.endFrom(5), 1023 - 31);
        Check.throwsA(IllegalArgumentException.class, "turn 12", () -> x.end(2, 112));
        Check.throwsA(IllegalArgumentException.class, "turn 6 of one round", () -> x.end(1, 106));
        Check.throwsA(IllegalArgumentException.class, "person 6", () -> x.end(2, 16));
    }
}
