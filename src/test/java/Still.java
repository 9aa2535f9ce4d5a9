import java.util.ArrayList;
import java.util.List;

/**
 * Twins: two objects made alike, of which one gets a call that must change nothing. Then all that can be seen of both is asked:
 * the town, the trays, what the images hold and what stands on the tape.
 */
final class Still {
    private static final int MOST_CALLS = 512;

    private final TillTheBell x;
    private final List<String> seen = new ArrayList<>();

    private Still(TillTheBell x) {
        this.x = x;
    }

    interface Made {
        TillTheBell make();
    }

    interface Asked {
        long of(TillTheBell x);
    }

    /** A call that answers, and changes nothing. */
    static void answers(String what, Made made, long due, Asked call) {
        TillTheBell x = made.make();
        Check.is(what, call.of(x), due);
        same(what, x, made.make());
    }

    /** A call that answers whatever, and changes nothing. */
    static void keeps(String what, Made made, Asked call) {
        TillTheBell x = made.make();
        call.of(x);
        same(what, x, made.make());
    }

    static void thrown(Class<? extends RuntimeException> due, String what, Made made, Asked call) {
        TillTheBell x = made.make();
        Check.throwsA(due, what, () -> call.of(x));
        same(what, x, made.make());
    }

    private static void same(String what, TillTheBell x, TillTheBell y) {
        List<String> got = new Still(x).all();
        List<String> want = new Still(y).all();
        for (int i = 0; i < Math.max(got.size(), want.size()); i++) {
            String a = i < got.size() ? got.get(i) : "nothing";
            String b = i < want.size() ? want.get(i) : "nothing";
            if (!a.equals(b)) {
                Check.yes(what + " has changed something: " + a + ", ahead of it " + b, false);
                return;
            }
        }
        Check.yes(what + " changes nothing", true);
    }

    private void ask(String call, Asked asked) {
        String answer;
        try {
            answer = String.valueOf(asked.of(x));
        } catch (RuntimeException e) {
            answer = e.getClass().getSimpleName();
        }
        seen.add(call + " " + answer);
    }

    private List<String> all() {
        town("now");
        ends();
        trays();
        for (int i = 0; i < 3; i++) {
            int image = i;
            int before = seen.size();
            ask("restore " + i, y -> {
                y.restore(image);
                return 0;
            });
            if (seen.get(before).endsWith(" 0")) {
                town("image " + i);
            }
        }
        tape();
        places();
        Check.yes("few calls: " + seen.size(), seen.size() <= MOST_CALLS - 60);
        return seen;
    }

    private void town(String when) {
        for (int i = 0; i < 12; i++) {
            int what = i;
            ask(when + ": count " + what, y -> y.count(what));
        }
        ask(when + ": fault", y -> y.fault(0));
        ask(when + ": its place", y -> y.fault(1));
        for (int p = 0; p < x.count(1); p++) {
            ofPerson(when, p);
        }
        for (int t = 0; t < x.count(2); t++) {
            int thing = t;
            ask(when + ": holder of " + thing, y -> y.holder(thing));
        }
        // The last deeds of many: all of them would be too many calls.
        for (int d = Math.max(0, x.count(3) - 4); d < x.count(3); d++) {
            ofDeed(when, d);
        }
    }

    private void ofPerson(String when, int p) {
        ask(when + ": coins of " + p, y -> y.person(p, 0));
        ask(when + ": wealth of " + p, y -> y.person(p, 1));
        for (int t = 0; t < x.count(2); t++) {
            int thing = t;
            ask(when + ": worth of " + thing + " to " + p, y -> y.worth(thing, p));
        }
    }

    private void ofDeed(String when, int d) {
        for (int i = 0; i < 8; i++) {
            int what = i;
            ask(when + ": deed " + d + ", " + what, y -> y.deed(d, what));
        }
    }

    private void ends() {
        ask("open", TillTheBell::open);
        ask("safe", TillTheBell::safe);
        ask("one round", y -> y.end(1, 0));
        ask("two rounds", y -> y.end(2, 0));
        ask("wealth in the end", y -> y.end(1, 10));
        ask("swaps", y -> y.swaps(-1));
    }

    private void trays() {
        for (int i = 0; i < 4; i++) {
            int tray = i;
            for (int j = 0; j < 3; j++) {
                int what = j;
                ask("judge " + tray + ", " + what, y -> y.judge(tray, what));
                ask("hope " + tray + ", " + what, y -> y.hope(0, tray, 2, what));
            }
        }
    }

    private void tape() {
        int bytes = x.count(11);
        ask("the tape", y -> y.town(bytes));
        ask("its fault", y -> y.fault(0));
        ask("its place", y -> y.fault(1));
        ask("its people", y -> y.count(1));
        ask("its coins", y -> y.count(9));
        ask("the tape then", y -> y.count(11));
    }

    /** Last, as it writes: how many places the trays have, and of which sort they are. */
    private void places() {
        for (int i = 0; i < 4; i++) {
            int tray = i;
            for (int at : new int[] {0, 1, 2, 3, 39}) {
                ask("place " + at + " of " + tray, y -> y.write(tray, at, 0x123456789abcdef0L));
            }
        }
    }
}
