/**
 * Everything at its most: 6 people, 10 things, 30 deeds, 40 places, 10 open deeds. Each call with each argument from one below
 * its bounds to one above them must answer, or throw, as the model does; new twins before an object's 512th call.
 */
public final class FullTest {
    private static final int MOST_CALLS = 512;

    private final int open;
    private TillTheBell real;
    private Model model;
    private int calls;

    private FullTest(int open) {
        this.open = open;
        renew();
    }

    interface OfReal {
        long of(TillTheBell x);
    }

    interface OfModel {
        long of(Model x);
    }

    public static void main(String[] args) {
        for (int open : new int[] {30, 10, 11, 0}) {
            FullTest t = new FullTest(open);
            t.people();
            t.things();
            t.deeds();
            t.owed();
            t.bell();
            t.swaps();
            t.trays();
            if (open != 30) {
                t.ends();
            }
        }
        changing();
        Check.end("FullTest");
    }

    private static String text() {
        StringBuilder text = new StringBuilder("people 6;share 37;bell 999;");
        for (int p = 0; p < 6; p++) {
            text.append("coins ").append(p).append(" 9999;");
        }
        for (int t = 0; t < 10; t++) {
            text.append("thing ").append(t % 6);
            for (int p = 0; p < 6; p++) {
                text.append(' ').append((t * 379 + p * 211 + t * p * 97) % 1000);
            }
            text.append(';');
        }
        return text.toString();
    }

    /** So many of thirty deeds are open, as the things of the others are eaten; in three sizes of chains. */
    private void renew() {
        real = new TillTheBell();
        model = new Model();
        calls = 0;
        int[] all = Check.ints(text());
        for (int i = 0; i < all.length; i += 5) {
            int at = i;
            both("feed", x -> x.feed(all[at], all[at + 1], all[at + 2], all[at + 3], all[at + 4]), x -> x.feed(all[at], all[at + 1], all[at + 2], all[at + 3], all[at + 4]));
        }
        both("town", x -> x.town(text().length()), x -> x.town(text().length()));
        for (int d = 0; d < 30; d++) {
            int thing = d < 10 ? d : d < 20 ? (d - 10) / 5 * 5 + d % 2 : d < 29 ? 2 + (d - 20) / 3 : 9;
            int to = (d * 7 + 1) % 6;
            int price = d * 131 % 900;
            both("sell", x -> x.sell(thing, x.holder(thing) == to ? (to + 1) % 6 : to, price), x -> x.sell(thing, x.holder(thing) == to ? (to + 1) % 6 : to, price));
        }
        for (int t = 0; t < 10 && Integer.bitCount(real.open()) > open; t++) {
            int thing = t;
            if (open == 0 || Integer.bitCount(real.open()) - length(thing) >= open) {
                both("eat", x -> x.eat(thing) ? 1 : 0, x -> x.eat(thing) ? 1 : 0);
            }
        }
        Check.is("so many are open", Integer.bitCount(real.open()), open);
        Check.is("thirty deeds", real.count(3), 30);
        calls += 40;
    }

    private int length(int thing) {
        int k = 0;
        while (real.chain(thing, k) >= 0) {
            k++;
        }
        calls += k + 1;
        return k;
    }

    private void both(String what, OfReal ofReal, OfModel ofModel) {
        calls++;
        String got;
        String want;
        try {
            got = String.valueOf(ofReal.of(real));
        } catch (RuntimeException e) {
            got = e.getClass().getSimpleName();
        }
        try {
            want = String.valueOf(ofModel.of(model));
        } catch (RuntimeException e) {
            want = e.getClass().getSimpleName();
        }
        Check.yes(what + " answered " + got + ", the model " + want, got.equals(want));
        if (calls >= MOST_CALLS - 1) {
            renew();
        }
    }

    private void people() {
        for (int p = -1; p <= 6; p++) {
            int who = p;
            for (int w = -1; w <= 3; w++) {
                int what = w;
                both("person " + p + ", " + w, x -> x.person(who, what), x -> x.person(who, what));
                both("debt " + p + ", " + w, x -> x.debt(who, what), x -> x.debt(who, what));
            }
        }
        for (int w = -1; w <= 12; w++) {
            int what = w;
            both("count " + w, x -> x.count(what), x -> x.count(what));
        }
    }

    private void things() {
        for (int t = -1; t <= 10; t++) {
            int thing = t;
            both("holder " + t, x -> x.holder(thing), x -> x.holder(thing));
            both("bidder " + t, x -> x.bidder(thing), x -> x.bidder(thing));
            for (int p = -1; p <= 6; p++) {
                int who = p;
                both("worth " + t + ", " + p, x -> x.worth(thing, who), x -> x.worth(thing, who));
                both("chain " + t + ", " + p, x -> x.chain(thing, who), x -> x.chain(thing, who));
                both("safePrice " + t + ", " + p, x -> x.safePrice(thing, who, 0), x -> x.safePrice(thing, who, 0));
                both("safePrice " + t + ", " + p, x -> x.safePrice(thing, who, 1), x -> x.safePrice(thing, who, 1));
            }
        }
    }

    private void deeds() {
        for (int d = -1; d <= 32; d++) {
            int deed = d;
            both("falls " + d, x -> x.falls(deed), x -> x.falls(deed));
            both("pledge " + d, x -> x.pledge(deed), x -> x.pledge(deed));
            for (int w = -1; w <= 8; w++) {
                int what = w;
                both("deed " + d + ", " + w, x -> x.deed(deed, what), x -> x.deed(deed, what));
            }
            for (int p = -1; p <= 6; p++) {
                int who = p;
                both("may " + d + ", " + p, x -> x.may(deed, who), x -> x.may(deed, who));
                both("gain " + d + ", " + p, x -> x.gain(deed, who), x -> x.gain(deed, who));
            }
        }
    }

    private void owed() {
        for (int d = -1; d <= 30; d++) {
            for (int by = -1; by <= 6; by++) {
                for (int to = -1; to <= 6; to++) {
                    int deed = d;
                    int who = by;
                    int whom = to;
                    both("owes " + d + ", " + by + ", " + to, x -> x.owes(deed, who, whom), x -> x.owes(deed, who, whom));
                }
            }
        }
    }

    private void bell() {
        both("open", x -> x.open(), x -> x.open());
        both("safe", x -> x.safe(), x -> x.safe());
        both("tempted", x -> x.tempted(), x -> x.tempted());
        both("longest", x -> x.longest(), x -> x.longest());
        both("misplaced", x -> x.misplaced(), x -> x.misplaced());
    }

    private void swaps() {
        for (int i = -2; i <= 60; i++) {
            int k = i;
            both("swaps " + i, x -> x.swaps(k), x -> x.swaps(k));
            both("threes " + i, x -> x.threes(k), x -> x.threes(k));
        }
    }

    private void trays() {
        for (int t = 0; t < 4; t++) {
            renew();
            int tray = t;
            both("tray", x -> laid(x, tray), x -> laid(x, tray));
            both("pour", x -> x.pour(tray), x -> x.pour(tray));
            for (int i = -1; i <= 40; i++) {
                int place = i;
                long v = i < 0 ? 0 : i < 30 ? 2 * (29 - i) + i % 2 : 60;
                both("write " + i, x -> x.write(tray, place, v), x -> x.write(tray, place, v));
            }
            for (int w = -1; w <= 3; w++) {
                int what = w;
                both("judge " + w, x -> x.judge(tray, what), x -> x.judge(tray, what));
            }
            both("perform", x -> x.perform(tray), x -> x.perform(tray));
            both("stand", x -> x.count(4), x -> x.count(4));
        }
        renew();
    }

    private static long laid(TillTheBell x, int sort) {
        x.tray(sort, sort, 40);
        return 0;
    }

    private static long laid(Model x, int sort) {
        x.tray(sort, sort, 40);
        return 0;
    }

    /** One round: the model tries every way, too dear for two. */
    private void ends() {
        for (int w : new int[] {-1, 0, 1, 2, 9, 10, 11, 12, 13, 14, 15, 16, 99, 100, 101, 102, 103, 104, 105, 106}) {
            both("end " + w, x -> x.end(1, w), x -> x.end(1, w));
        }
        for (int p = -1; p <= 6; p++) {
            int who = p;
            both("endFrom " + p, x -> x.endFrom(who), x -> x.endFrom(who));
            both("ringer " + p, x -> x.ringer(who), x -> x.ringer(who));
            both("news to " + p, x -> x.news(9, who, 999), x -> x.news(9, who, 999));
        }
        for (int t = -1; t <= 10; t++) {
            int thing = t;
            both("keeper " + t, x -> x.keeper(thing, 1), x -> x.keeper(thing, 1));
        }
    }

    /** What changes all: undone, unravelled, a morning, an image of all thirty. */
    private static void changing() {
        FullTest t = new FullTest(30);
        t.both("image", x -> imaged(x), x -> imaged(x));
        t.both("unravel", x -> x.unravel(), x -> x.unravel());
        t.people();
        t = new FullTest(30);
        t.both("day", x -> x.day(12345, 40), x -> x.day(12345, 40));
        t.both("a 31st", x -> x.sell(0, 0, 0), x -> x.sell(0, 0, 0));
        t.both("bell", x -> x.pass(999), x -> x.pass(999));
        t.both("morning", x -> x.morning(), x -> x.morning());
        t.people();
        t.both("day", x -> x.day(-1, 40), x -> x.day(-1, 40));
        t.bell();
    }

    private static long imaged(TillTheBell x) {
        x.image(2);
        return 0;
    }

    private static long imaged(Model x) {
        x.image(2);
        return 0;
    }
}
