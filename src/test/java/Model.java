import java.util.ArrayList;
import java.util.Arrays;
import java.util.List;
import java.util.NoSuchElementException;

/**
 * The document once more, by other means: a slow model that copies whole towns and tries every way. ModelTest compares the
 * class with it call by call. Public methods have the names and arguments of the face.
 */
public final class Model {
    static final int NONE = -1;
    static final int SPENT = -100000;

    static final class Deed {
        int thing, giver, taker, price, minute;
        boolean stands = true;

        Deed copy() {
            Deed c = new Deed();
            c.thing = thing; c.giver = giver; c.taker = taker; c.price = price; c.minute = minute; c.stands = stands;
            return c;
        }
    }

    static final class State {
        int lines, people, share = 50, bell = 720, minute;
        int[] coins = new int[6];
        List<int[]> worths = new ArrayList<>();
        List<Integer> holders = new ArrayList<>();
        List<Boolean> eaten = new ArrayList<>();
        List<Deed> deeds = new ArrayList<>();

        State copy() {
            State c = new State();
            c.lines = lines; c.people = people; c.share = share; c.bell = bell; c.minute = minute;
            c.coins = coins.clone();
            for (int[] w : worths) c.worths.add(w.clone());
            c.holders.addAll(holders);
            c.eaten.addAll(eaten);
            for (Deed d : deeds) c.deeds.add(d.copy());
            return c;
        }

        boolean rung() { return minute >= bell; }

        int wealth(int p) {
            int sum = coins[p];
            for (int t = 0; t < holders.size(); t++) if (holders.get(t) == p) sum += worths.get(t)[p];
            return sum;
        }

        int toGiver(Deed d) { return Math.max(0, d.price - worths.get(d.thing)[d.giver]); }

        int toTaker(Deed d) { return Math.max(0, worths.get(d.thing)[d.taker] - d.price); }

        boolean isOpen(int d) {
            return !rung() && deeds.get(d).stands && !eaten.get(deeds.get(d).thing);
        }

        List<Integer> falling(int d) {
            List<Integer> all = new ArrayList<>();
            if (!deeds.get(d).stands) return all;
            for (int f = deeds.size() - 1; f >= d; f--) {
                if (deeds.get(f).stands && deeds.get(f).thing == deeds.get(d).thing) all.add(f);
            }
            return all;
        }

        /** Really falls, step by step as the document tells it, coins below 0 or not. */
        int fall(int d, int by) {
            List<Integer> all = falling(d);
            for (int f : all) {
                Deed e = deeds.get(f);
                holders.set(e.thing, e.giver);
                coins[e.giver] -= e.price;
                coins[e.taker] += e.price;
                int g = (int) Math.floor(share * toGiver(e) / 100.0 + 1e-9);
                int t = (int) Math.floor(share * toTaker(e) / 100.0 + 1e-9);
                coins[e.giver] += g;
                coins[by] -= g;
                coins[e.taker] += t;
                coins[by] -= t;
                e.stands = false;
            }
            return all.size();
        }

        int whyNot(int d, int by) {
            if (d < 0 || d >= deeds.size()) return 1;
            Deed e = deeds.get(d);
            if (!e.stands) return 2;
            if (e.giver != by && e.taker != by) return 3;
            if (rung()) return 4;
            if (eaten.get(e.thing)) return 5;
            State c = copy();
            c.fall(d, by);
            return c.coins[by] < 0 ? 6 : 0;
        }

        int whyNoDeed(int thing, int to, int price) {
            if (thing < 0 || thing >= holders.size() || to < 0 || to >= people || holders.get(thing) == to) return 1;
            if (price < 0 || price > 9999) return 2;
            if (coins[to] < price) return 3;
            if (rung()) return 4;
            if (eaten.get(thing)) return 5;
            return deeds.size() == 30 ? 6 : 0;
        }

        int make(int thing, int to, int price) {
            Deed d = new Deed();
            d.thing = thing; d.giver = holders.get(thing); d.taker = to; d.price = price; d.minute = minute;
            coins[to] -= price;
            coins[d.giver] += price;
            holders.set(thing, to);
            deeds.add(d);
            return deeds.size() - 1;
        }

        int gain(int d, int by) {
            State c = copy();
            c.fall(d, by);
            return c.wealth(by) - wealth(by);
        }

        int bits() {
            int b = 0;
            for (int d = 0; d < deeds.size(); d++) if (deeds.get(d).stands) b |= 1 << d;
            return b;
        }

        int openBits() {
            int b = 0;
            for (int d = 0; d < deeds.size(); d++) if (isOpen(d)) b |= 1 << d;
            return b;
        }
    }

    static final class Outcome {
        State town;
        List<Integer> undone = new ArrayList<>();
    }

    private State s = new State();
    private final State[] images = new State[3];
    private final long[][] rows = new long[4][];
    private final int[] sorts = new int[4];
    private byte[] tape = new byte[0];
    private int fault = 0;
    private int place = NONE;

    // ---- the town

    public int feed(int a, int b, int c, int d, int e) {
        if (tape.length + 20 > 900) return NONE;
        int at = tape.length;
        tape = Arrays.copyOf(tape, at + 20);
        for (int v : new int[] {a, b, c, d, e}) {
            for (int i = 3; i >= 0; i--) tape[at++] = (byte) (v >>> 8 * i);
        }
        return tape.length;
    }

    public int town(int n) {
        if (n < 0 || n > tape.length) throw new IllegalArgumentException();
        StringBuilder text = new StringBuilder();
        for (int i = 0; i < n; i++) text.append((char) (tape[i] & 255));
        tape = new byte[0];
        State read = new State();
        int found = parse(text.toString(), read);
        if (found >= 0) {
            fault = found & 15;
            place = found >> 4;
            return -10 - fault;
        }
        fault = 0;
        place = NONE;
        s = read;
        return s.lines;
    }

    /** The whole text is cut into tokens at first; 16 times the place and the fault's kind, or NONE. */
    private static int parse(String text, State into) {
        List<String> tokens = new ArrayList<>();
        List<Integer> places = new ArrayList<>();
        java.util.regex.Matcher m = java.util.regex.Pattern.compile("[a-z]+|[0-9]+|[^a-z0-9\n ]", java.util.regex.Pattern.DOTALL).matcher(text);
        while (m.find()) {
            tokens.add(m.group());
            places.add(m.start());
        }
        tokens.add("");
        places.add(text.length());
        int at = 0;
        while (!tokens.get(at).isEmpty()) {
            int end = at;
            List<Integer> args = new ArrayList<>();
            String word = tokens.get(at);
            boolean known = List.of("people", "coins", "thing", "worth", "share", "bell", "eaten").contains(word);
            if (isBad(word)) return places.get(at) << 4 | 1;
            if (!known || into.people == 0 && !word.equals("people")) return places.get(at) << 4 | 2;
            if (word.equals("people") && into.people > 0) return places.get(at) << 4 | 4;
            if (word.equals("thing") && into.holders.size() == 10) return places.get(at) << 4 | 4;
            int least = word.equals("worth") ? 3 : word.equals("coins") ? 2 : 1;
            int most = word.equals("thing") ? 1000 : least;
            for (end = at + 1; ; end++) {
                String t = tokens.get(end);
                int k = args.size();
                if (isBad(t)) return places.get(end) << 4 | 1;
                boolean number = !t.isEmpty() && Character.isDigit(t.charAt(0));
                if (t.equals(";") && k >= least) break;
                if (!number || k >= most) return places.get(end) << 4 | 2;
                int v = Integer.parseInt(t);
                int low = word.equals("people") || word.equals("bell") ? 1 : 0;
                if (v < low || v > high(word, k, into)) return places.get(end) << 4 | 3;
                if (word.equals("thing") && k > into.people) return places.get(end) << 4 | 4;
                args.add(v);
            }
            apply(word, args, into);
            into.lines++;
            at = end + 1;
        }
        return NONE;
    }

    private static boolean isBad(String t) {
        return !t.matches("[a-z]*|[0-9]{1,4}|;");
    }

    private static int high(String word, int k, State into) {
        switch (word + k) {
            case "people0": return 6;
            case "coins0": case "thing0": case "worth1": return into.people - 1;
            case "coins1": return 9999;
            case "worth0": case "eaten0": return into.holders.size() - 1;
            case "share0": return 100;
            default: return 999;
        }
    }

    private static void apply(String word, List<Integer> args, State into) {
        switch (word) {
            case "people": into.people = args.get(0); break;
            case "coins": into.coins[args.get(0)] = args.get(1); break;
            case "worth": into.worths.get(args.get(0))[args.get(1)] = args.get(2); break;
            case "share": into.share = args.get(0); break;
            case "bell": into.bell = args.get(0); break;
            case "eaten": into.eaten.set(args.get(0), true); break;
            default:
                into.holders.add(args.get(0));
                into.eaten.add(false);
                int[] w = new int[6];
                for (int i = 1; i < args.size(); i++) w[i - 1] = args.get(i);
                into.worths.add(w);
        }
    }

    public int fault(int what) { return what == 0 ? fault : what == 1 ? place : NONE; }

    public int person(int p, int what) {
        needPerson(p);
        if (what < 0 || what > 2) throw new IllegalArgumentException();
        if (what == 2) return (int) s.holders.stream().filter(h -> h == p).count();
        return what == 0 ? s.coins[p] : s.wealth(p);
    }

    public int worth(int thing, int p) {
        needThing(thing);
        needPerson(p);
        return s.worths.get(thing)[p];
    }

    public int holder(int thing) {
        needThing(thing);
        return s.holders.get(thing);
    }

    public boolean eat(int thing) {
        needThing(thing);
        return !s.eaten.set(thing, true);
    }

    public int pass(int minutes) {
        if (minutes < 0 || minutes > 999) throw new IllegalArgumentException();
        s.minute = Math.min(1000, s.minute + minutes);
        return s.minute;
    }

    public int morning() {
        if (!s.rung()) throw new IllegalStateException();
        int stood = Integer.bitCount(s.bits());
        s.minute = 0;
        s.deeds.clear();
        return stood;
    }

    // ---- deeds

    public int sell(int thing, int to, int price) {
        int why = s.whyNoDeed(thing, to, price);
        return why > 0 ? -10 - why : s.make(thing, to, price);
    }

    public int deed(int d, int what) {
        needDeed(d);
        if (what < 0 || what > 7) throw new IllegalArgumentException();
        Deed e = s.deeds.get(d);
        return new int[] {e.thing, e.giver, e.taker, e.price, e.stands ? 1 : 0, e.minute, s.toGiver(e), s.toTaker(e)}[what];
    }

    public int may(int d, int by) {
        needPerson(by);
        return s.whyNot(d, by);
    }

    public int undo(int d, int by) {
        needPerson(by);
        int why = s.whyNot(d, by);
        return why > 0 ? -10 - why : s.fall(d, by);
    }

    public int falls(int d) {
        needDeed(d);
        int b = 0;
        for (int f : s.falling(d)) b |= 1 << f;
        return b;
    }

    public int owes(int d, int by, int to) {
        needDeed(d);
        needPerson(by);
        needPerson(to);
        Deed first = s.deeds.get(d);
        if (by == to || first.giver != by && first.taker != by) return 0;
        int sum = 0;
        for (int f : s.falling(d)) {
            Deed e = s.deeds.get(f);
            if (e.giver == to) sum += s.share * s.toGiver(e) / 100;
            if (e.taker == to) sum += s.share * s.toTaker(e) / 100;
        }
        return sum;
    }

    public int chain(int thing, int k) {
        needThing(thing);
        List<Integer> all = new ArrayList<>();
        for (int d = 0; d < s.deeds.size(); d++) if (s.deeds.get(d).stands && s.deeds.get(d).thing == thing) all.add(d);
        return k < 0 || k >= all.size() ? NONE : all.get(k);
    }

    public int judge(int tray, int what) {
        needTray(tray);
        if (what < 0 || what > 2) throw new IllegalArgumentException();
        State c = s.copy();
        for (int i = 0; i < rows[tray].length; i++) {
            int why = step(c, rows[tray][i]);
            if (why != 0) return what == 0 ? i : what == 1 ? why : Integer.bitCount(c.bits());
        }
        return what == 0 ? NONE : what == 1 ? 0 : Integer.bitCount(c.bits());
    }

    private static int step(State c, long told) {
        long d = Math.floorDiv(told, 2L);
        if (d < 0 || d >= c.deeds.size()) return 1;
        Deed e = c.deeds.get((int) d);
        int by = Math.floorMod(told, 2L) == 1 ? e.taker : e.giver;
        int why = c.whyNot((int) d, by);
        if (why == 0) c.fall((int) d, by);
        return why;
    }

    public int perform(int tray) {
        needTray(tray);
        int done = 0;
        for (long told : rows[tray]) {
            if (step(s, told) != 0) break;
            done++;
        }
        return done;
    }

    private int x;

    private int draw() {
        x = 1103515245 * x + 12345;
        return x >>> 16;
    }

    public int day(int seed, int times) {
        if (times < 1 || times > 40) throw new IllegalArgumentException();
        if (s.holders.isEmpty()) return 0;
        x = seed;
        int done = 0;
        for (int i = 0; i < times; i++) {
            if (draw() % 3 < 2) {
                int thing = draw() % s.holders.size();
                int p = draw() % s.people;
                int price = draw() % 100;
                if (sell(thing, p, price) >= 0) done++;
            } else if (!s.deeds.isEmpty()) {
                int d = draw() % s.deeds.size();
                int by = draw() % 2 == 0 ? s.deeds.get(d).giver : s.deeds.get(d).taker;
                if (undo(d, by) > 0) done++;
            }
        }
        return done;
    }

    // ---- by the bell

    public int open() { return s.openBits(); }

    public int gain(int d, int by) {
        needDeed(d);
        needPerson(by);
        Deed e = s.deeds.get(d);
        return s.isOpen(d) && (e.giver == by || e.taker == by) ? s.gain(d, by) : NONE;
    }

    public int safe() {
        int b = 0;
        for (int d = 0; d < s.deeds.size(); d++) if (s.isOpen(d) && pledge(d) == 0) b |= 1 << d;
        return b;
    }

    public int pledge(int d) {
        needDeed(d);
        if (!s.isOpen(d)) return 0;
        int pledge = 0;
        while (s.gain(d, s.deeds.get(d).giver) - pledge > 0 || s.gain(d, s.deeds.get(d).taker) - pledge > 0) pledge++;
        return pledge;
    }

    public int tempted() {
        int b = 0;
        for (int p = 0; p < s.people; p++) {
            for (int d = 0; d < s.deeds.size(); d++) if (gain(d, p) > 0) b |= 1 << p;
        }
        return b;
    }

    public int unravel() {
        int done = 0;
        while (true) {
            int most = 0;
            int which = NONE;
            int who = NONE;
            for (int d = s.deeds.size() - 1; d >= 0; d--) {
                for (int p : new int[] {s.deeds.get(d).taker, s.deeds.get(d).giver}) {
                    if (s.whyNot(d, p) == 0 && s.gain(d, p) > 0 && s.gain(d, p) >= most) {
                        most = s.gain(d, p);
                        which = d;
                        who = p;
                    }
                }
            }
            if (which == NONE) return done;
            s.fall(which, who);
            done++;
        }
    }

    public int debt(int p, int what) {
        needPerson(p);
        if (what < 0 || what > 1) throw new IllegalArgumentException();
        int most = NONE;
        int first = NONE;
        for (int d = 0; d < s.deeds.size(); d++) {
            Deed e = s.deeds.get(d);
            if (!s.isOpen(d) || e.giver != p && e.taker != p) continue;
            int sum = 0;
            for (int q = 0; q < s.people; q++) sum += owes(d, p, q);
            if (sum > most) {
                most = sum;
                first = d;
            }
        }
        return what == 0 ? Math.max(0, most) : first;
    }

    public int safePrice(int thing, int to, int what) {
        needThing(thing);
        needPerson(to);
        if (s.holders.get(thing) == to) throw new IllegalStateException();
        if (what < 0 || what > 1) throw new IllegalArgumentException();
        int least = NONE;
        int most = NONE;
        for (int price = 0; price < 1000; price++) {
            State c = s.copy();
            c.deeds.clear();
            c.make(thing, to, price);
            if (c.gain(0, to) <= 0 && c.gain(0, s.holders.get(thing)) <= 0) {
                least = least == NONE ? price : least;
                most = price;
            }
        }
        return what == 0 ? least : most;
    }

    public int longest() {
        int best = NONE;
        for (int t = s.holders.size() - 1; t >= 0; t--) {
            if (chain(t, 0) != NONE && (best == NONE || length(t) >= length(best))) best = t;
        }
        return best;
    }

    private int length(int thing) {
        int k = 0;
        while (chain(thing, k) != NONE) k++;
        return k;
    }

    public int bidder(int thing) {
        needThing(thing);
        int best = NONE;
        for (int p = s.people - 1; p >= 0; p--) {
            int w = s.worths.get(thing)[p];
            if (s.holders.get(thing) == p || s.coins[p] < w) continue;
            if (best == NONE || w >= s.worths.get(thing)[best]) best = p;
        }
        return best;
    }

    /** Every way is tried on copies of the town; null if too many are open. */
    private static Outcome endOf(State town, int turn, int turns, int first) {
        if (turn == turns) {
            Outcome o = new Outcome();
            o.town = town;
            return o;
        }
        int p = (first + turn) % town.people;
        Outcome best = endOf(town, turn + 1, turns, first);
        int done = NONE;
        for (int d = 0; d < town.deeds.size(); d++) {
            Deed e = town.deeds.get(d);
            if (!town.isOpen(d) || e.giver != p && e.taker != p) continue;
            State c = town.copy();
            c.fall(d, p);
            Outcome o = endOf(c, turn + 1, turns, first);
            if (o.town.wealth(p) > best.town.wealth(p)) {
                best = o;
                done = d;
            }
        }
        best.undone.add(0, done);
        return best;
    }

    private static Outcome endOf(State town, int rounds, int first) {
        return Integer.bitCount(town.openBits()) > 10 ? null : endOf(town.copy(), 0, rounds * town.people, first);
    }

    public int keeper(int thing, int rounds) {
        needThing(thing);
        if (rounds < 1 || rounds > 2) throw new IllegalArgumentException();
        Outcome o = endOf(s, rounds, 0);
        return o == null ? SPENT : o.town.holders.get(thing);
    }

    public int endFrom(int p) {
        needPerson(p);
        Outcome o = endOf(s, 1, p);
        return o == null ? SPENT : o.town.bits();
    }

    public int end(int rounds, int what) {
        if (rounds < 1 || rounds > 2) throw new IllegalArgumentException();
        boolean person = what >= 10 && what < 10 + s.people;
        boolean turn = what >= 100 && what < 100 + rounds * s.people;
        if (what != 0 && what != 1 && !person && !turn) throw new IllegalArgumentException();
        Outcome o = endOf(s, rounds, 0);
        if (o == null) return SPENT;
        if (what == 0) return o.town.bits();
        if (what == 1) return (int) o.undone.stream().filter(d -> d != NONE).count();
        if (person) return o.town.wealth(what - 10);
        return o.undone.get(what - 100);
    }

    public int ringer(int p) {
        needPerson(p);
        Outcome o = endOf(s, 1, 0);
        return o == null ? SPENT : s.wealth(p) - o.town.wealth(p);
    }

    public int news(int thing, int p, int worth) {
        needThing(thing);
        needPerson(p);
        if (worth < 0 || worth > 999) throw new IllegalArgumentException();
        State c = s.copy();
        c.worths.get(thing)[p] = worth;
        Outcome o = endOf(c, 1, 0);
        return o == null ? SPENT : o.town.bits();
    }

    public int bestShare() {
        int most = NONE;
        int best = NONE;
        for (int share = 100; share >= 0; share--) {
            State c = s.copy();
            c.share = share;
            Outcome o = endOf(c, 1, 0);
            if (o == null) return SPENT;
            if (Integer.bitCount(o.town.bits()) >= most) {
                most = Integer.bitCount(o.town.bits());
                best = share;
            }
        }
        return best;
    }

    public int share(int n) {
        if (n < 0 || n > 100) throw new IllegalArgumentException();
        int before = s.share;
        s.share = n;
        return before;
    }

    public int hope(int d, int tray, int n, int what) {
        needDeed(d);
        needTray(tray);
        if (!s.isOpen(d)) throw new IllegalStateException();
        if (n < 1 || n > 6 || what < 0 || what > 2) throw new IllegalArgumentException();
        int k = rows[tray].length;
        if (k < 1 || k > 6) throw new IllegalArgumentException();
        for (long o : rows[tray]) if (o < 0 || o > 9999) throw new IllegalArgumentException();
        int giver = s.deeds.get(d).giver;
        State c = s.copy();
        c.fall(d, giver);
        int alone = c.wealth(giver) - c.worths.get(s.deeds.get(d).thing)[giver] - s.wealth(giver);
        java.math.BigInteger parts = java.math.BigInteger.valueOf(k).pow(n);
        if (what == 2) {
            long least = NONE;
            for (long o : rows[tray]) {
                boolean taken = alone + o >= 0
                    && java.math.BigInteger.valueOf(alone + o).multiply(java.math.BigInteger.valueOf(k).pow(n - 1)).compareTo(hopeParts(rows[tray], alone, n - 1)) >= 0;
                if (taken && (least == NONE || o < least)) least = o;
            }
            return (int) least;
        }
        java.math.BigInteger[] both = hopeParts(rows[tray], alone, n).divideAndRemainder(parts);
        return both[what].intValueExact();
    }

    private static java.math.BigInteger hopeParts(long[] offers, int alone, int n) {
        java.math.BigInteger sum = java.math.BigInteger.ZERO;
        if (n == 0) return sum;
        java.math.BigInteger wait = hopeParts(offers, alone, n - 1);
        for (long o : offers) {
            sum = sum.add(wait.max(java.math.BigInteger.valueOf(o + alone).multiply(java.math.BigInteger.valueOf(offers.length).pow(n - 1))));
        }
        return sum;
    }

    // ---- swaps

    private boolean prefers(int own, int other) {
        int p = s.holders.get(own);
        return s.worths.get(other)[p] > s.worths.get(own)[p];
    }

    public int swaps(int k) {
        List<Integer> all = new ArrayList<>();
        for (int i = 0; i < s.holders.size(); i++) {
            for (int j = i + 1; j < s.holders.size(); j++) {
                if (s.eaten.get(i) || s.eaten.get(j) || s.holders.get(i).intValue() == s.holders.get(j)) continue;
                if (prefers(i, j) && prefers(j, i)) all.add(100 * i + j);
            }
        }
        return k == NONE ? all.size() : k < 0 || k >= all.size() ? NONE : all.get(k);
    }

    public int threes(int k) {
        List<Integer> all = new ArrayList<>();
        int n = s.holders.size();
        for (int code = 0; code < n * n * n; code++) {
            int i = code / (n * n);
            int j = code / n % n;
            int l = code % n;
            if (i >= j || i >= l || j == l || s.eaten.get(i) || s.eaten.get(j) || s.eaten.get(l)) continue;
            int a = s.holders.get(i);
            int b = s.holders.get(j);
            int c = s.holders.get(l);
            if (a == b || b == c || a == c) continue;
            if (prefers(i, j) && prefers(j, l) && prefers(l, i)) all.add(10000 * i + 100 * j + l);
        }
        return k == NONE ? all.size() : k < 0 || k >= all.size() ? NONE : all.get(k);
    }

    public int misplaced() {
        int b = 0;
        for (int t = 0; t < s.holders.size(); t++) {
            int own = s.worths.get(t)[s.holders.get(t)];
            if (Arrays.stream(s.worths.get(t)).limit(s.people).anyMatch(w -> w > own)) b |= 1 << t;
        }
        return b;
    }

    // ---- trays, images

    public void tray(int tray, int sort, int many) {
        if (tray < 0 || tray > 3) throw new NoSuchElementException();
        if (sort < 0 || sort > 3 || many < 0 || many > 40) throw new IllegalArgumentException();
        rows[tray] = new long[many];
        sorts[tray] = sort;
    }

    private long cut(int tray, long v) {
        int shift = 64 - (8 << sorts[tray]);
        return v << shift >> shift;
    }

    public long write(int tray, int place, long v) {
        needTray(tray);
        if (place < 0 || place >= rows[tray].length) throw new IndexOutOfBoundsException();
        rows[tray][place] = cut(tray, v);
        return rows[tray][place];
    }

    public int pour(int tray) {
        needTray(tray);
        int at = 0;
        for (Deed d : s.deeds) if (d.stands && at < rows[tray].length) rows[tray][at++] = cut(tray, d.price);
        return at;
    }

    public void image(int i) {
        if (i < 0 || i > 2) throw new NoSuchElementException();
        images[i] = s.copy();
    }

    public void restore(int i) {
        if (i < 0 || i > 2) throw new NoSuchElementException();
        if (images[i] == null) throw new IllegalStateException();
        s = images[i].copy();
    }

    public int count(int what) {
        int eaten = 0;
        for (int t = 0; t < s.eaten.size(); t++) if (s.eaten.get(t)) eaten |= 1 << t;
        int coins = 0;
        int wealth = 0;
        for (int p = 0; p < s.people; p++) {
            coins += s.coins[p];
            wealth += s.wealth(p);
        }
        int[] all = {s.lines, s.people, s.holders.size(), s.deeds.size(), Integer.bitCount(s.bits()), s.minute, s.share, s.bell,
            eaten, coins, wealth, tape.length};
        return what < 0 || what >= all.length ? NONE : all[what];
    }

    private void needPerson(int p) { if (p < 0 || p >= s.people) throw new NoSuchElementException(); }

    private void needThing(int t) { if (t < 0 || t >= s.holders.size()) throw new NoSuchElementException(); }

    private void needDeed(int d) { if (d < 0 || d >= s.deeds.size()) throw new NoSuchElementException(); }

    private void needTray(int t) {
        if (t < 0 || t > 3) throw new NoSuchElementException();
        if (rows[t] == null) throw new IllegalStateException();
    }
}
