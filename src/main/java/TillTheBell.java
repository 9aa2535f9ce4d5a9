import java.util.Arrays;
import java.util.NoSuchElementException;

public final class TillTheBell {
    public static final int NONE = -1;
    public static final int SPENT = -100000;

    private static final int MOST_BYTES = 900;
    private static final int MOST_PEOPLE = 6;
    private static final int MOST_THINGS = 10;
    private static final int MOST_DEEDS = 30;
    private static final int MOST_COINS = 9999;
    private static final int MOST_PRICE = 9999;
    private static final int MOST_WORTH = 999;
    private static final int MOST_SHARE = 100;
    private static final int MOST_BELL = 999;
    private static final int MOST_MINUTE = 1000;
    private static final int MOST_OPEN = 10;
    private static final int MOST_TURNS = 12;
    private static final int STATES = 1024;
    private static final int MOST_PLACES = 40;
    private static final int MOST_TIMES = 40;
    private static final int MOST_OFFERS = 6;
    private static final int TRAYS = 4;
    private static final int IMAGES = 3;

    private final Town now = new Town();
    // Trials (a text not yet judged, undoings as if done, news, other shares) happen here: no call has to put anything back.
    private final Town trial = new Town();
    private final Town[] images = new Town[IMAGES];
    private final boolean[] imaged = new boolean[IMAGES];
    private final Tray[] trays = new Tray[TRAYS];
    private final Reader reader = new Reader();
    private final Ending ending = new Ending();

    public TillTheBell() {
        for (int i = 0; i < IMAGES; i++) {
            images[i] = new Town();
        }
        for (int i = 0; i < TRAYS; i++) {
            trays[i] = new Tray();
        }
    }

    // ---- the town

    public int feed(int a, int b, int c, int d, int e) {
        if (reader.length + 20 > MOST_BYTES) {
            return NONE;
        }
        reader.add(a);
        reader.add(b);
        reader.add(c);
        reader.add(d);
        reader.add(e);
        return reader.length;
    }

    public int town(int n) throws IllegalArgumentException {
        if (n < 0 || n > reader.length) {
            throw new IllegalArgumentException();
        }
        boolean good = reader.read(n, trial);
        reader.length = 0;
        if (!good) {
            return -10 - reader.wrong;
        }
        now.copyFrom(trial);
        return now.lines;
    }

    public int fault(int what) {
        if (what == 0) {
            return reader.wrong;
        }
        return what == 1 ? reader.place : NONE;
    }

    public int person(int p, int what) throws NoSuchElementException, IllegalArgumentException {
        needPerson(p);
        switch (what) {
            case 0:
                return now.coins[p];
            case 1:
                return now.wealth(p);
            case 2:
                return now.held(p);
            default:
                throw new IllegalArgumentException();
        }
    }

    public int worth(int thing, int p) throws NoSuchElementException {
        needThing(thing);
        needPerson(p);
        return now.worthTo(thing, p);
    }

    public int holder(int thing) throws NoSuchElementException {
        needThing(thing);
        return now.holders[thing];
    }

    public boolean eat(int thing) throws NoSuchElementException {
        needThing(thing);
        boolean fresh = !now.isEaten(thing);
        now.eaten |= 1 << thing;
        return fresh;
    }

    public int pass(int minutes) throws IllegalArgumentException {
        if (minutes < 0 || minutes > 999) {
            throw new IllegalArgumentException();
        }
        now.minute = Math.min(MOST_MINUTE, now.minute + minutes);
        return now.minute;
    }

    public int morning() throws IllegalStateException {
        if (!now.hasRung()) {
            throw new IllegalStateException();
        }
        int stood = Integer.bitCount(now.standing);
        now.minute = 0;
        now.deeds = 0;
        now.standing = 0;
        return stood;
    }

    // ---- deeds

    public int sell(int thing, int to, int price) {
        int why = now.whyNoDeed(thing, to, price);
        return why == 0 ? now.make(thing, to, price) : -10 - why;
    }

    public int deed(int d, int what) throws NoSuchElementException, IllegalArgumentException {
        needDeed(d);
        switch (what) {
            case 0:
                return now.thingOf[d];
            case 1:
                return now.giverOf[d];
            case 2:
                return now.takerOf[d];
            case 3:
                return now.priceOf[d];
            case 4:
                return now.stands(d) ? 1 : 0;
            case 5:
                return now.minuteOf[d];
            case 6:
                return now.worthToGiver(d);
            case 7:
                return now.worthToTaker(d);
            default:
                throw new IllegalArgumentException();
        }
    }

    public int may(int d, int by) throws NoSuchElementException {
        needPerson(by);
        return now.whyNoUndoing(d, by);
    }

    public int undo(int d, int by) throws NoSuchElementException {
        needPerson(by);
        int why = now.whyNoUndoing(d, by);
        return why == 0 ? now.fell(d, by) : -10 - why;
    }

    public int falls(int d) throws NoSuchElementException {
        needDeed(d);
        return now.fallBits(d);
    }

    public int owes(int d, int by, int to) throws NoSuchElementException {
        needDeed(d);
        needPerson(by);
        needPerson(to);
        return now.isOf(d, by) ? now.owedTo(d, by, to) : 0;
    }

    public int chain(int thing, int k) throws NoSuchElementException {
        needThing(thing);
        int seen = 0;
        for (int d = 0; d < now.deeds; d++) {
            if (now.thingOf[d] == thing && now.stands(d)) {
                if (seen == k) {
                    return d;
                }
                seen++;
            }
        }
        return NONE;
    }

    public int judge(int tray, int what) throws NoSuchElementException, IllegalStateException, IllegalArgumentException {
        Tray told = needTray(tray);
        if (what < 0 || what > 2) {
            throw new IllegalArgumentException();
        }
        trial.copyFrom(now);
        int done = doTold(trial, told);
        if (what == 2) {
            return Integer.bitCount(trial.standing);
        }
        if (done == told.many) {
            return what == 0 ? NONE : 0;
        }
        return what == 0 ? done : whyNoTold(trial, told.row[done]);
    }

    public int perform(int tray) throws NoSuchElementException, IllegalStateException {
        return doTold(now, needTray(tray));
    }

    public int day(int seed, int times) throws IllegalArgumentException {
        if (times < 1 || times > MOST_TIMES) {
            throw new IllegalArgumentException();
        }
        return now.things == 0 ? 0 : new Draws(seed).spend(now, times);
    }

    // ---- by the bell

    public int open() {
        return now.openBits();
    }

    public int gain(int d, int by) throws NoSuchElementException {
        needDeed(d);
        needPerson(by);
        return now.isOpen(d) && now.isOf(d, by) ? now.gainOf(d, by) : NONE;
    }

    public int safe() {
        int bits = 0;
        for (int d = 0; d < now.deeds; d++) {
            if (now.isOpen(d) && now.topGain(d) <= 0) {
                bits |= 1 << d;
            }
        }
        return bits;
    }

    public int pledge(int d) throws NoSuchElementException {
        needDeed(d);
        return now.isOpen(d) ? Math.max(0, now.topGain(d)) : 0;
    }

    public int tempted() {
        int bits = 0;
        for (int d = 0; d < now.deeds; d++) {
            if (now.isOpen(d)) {
                bits |= temptedBit(d, now.giverOf[d]) | temptedBit(d, now.takerOf[d]);
            }
        }
        return bits;
    }

    public int unravel() {
        int undoings = 0;
        for (int i = 0; i < MOST_DEEDS; i++) {
            int told = now.bestUndoing();
            if (told == NONE) {
                break;
            }
            int d = told >> 1;
            now.fell(d, now.sideOf(d, told & 1));
            undoings++;
        }
        return undoings;
    }

    public int debt(int p, int what) throws NoSuchElementException, IllegalArgumentException {
        needPerson(p);
        if (what != 0 && what != 1) {
            throw new IllegalArgumentException();
        }
        int most = 0;
        int first = NONE;
        for (int d = 0; d < now.deeds; d++) {
            if (now.isOpen(d) && now.isOf(d, p)) {
                int sum = now.owedToAll(d, p);
                if (first == NONE || sum > most) {
                    most = sum;
                    first = d;
                }
            }
        }
        return what == 0 ? most : first;
    }

    public int safePrice(int thing, int to, int what) throws NoSuchElementException, IllegalStateException, IllegalArgumentException {
        needThing(thing);
        needPerson(to);
        if (now.holders[thing] == to) {
            throw new IllegalStateException();
        }
        if (what != 0 && what != 1) {
            throw new IllegalArgumentException();
        }
        int found = NONE;
        for (int price = 0; price <= MOST_WORTH; price++) {
            if (now.wouldBeSafe(thing, to, price) && (what == 1 || found == NONE)) {
                found = price;
            }
        }
        return found;
    }

    public int longest() {
        int longest = 0;
        int first = NONE;
        for (int thing = 0; thing < now.things; thing++) {
            int length = now.chainLength(thing);
            if (length > longest) {
                longest = length;
                first = thing;
            }
        }
        return first;
    }

    public int bidder(int thing) throws NoSuchElementException {
        needThing(thing);
        int most = NONE;
        int first = NONE;
        for (int p = 0; p < now.people; p++) {
            int worth = now.worthTo(thing, p);
            if (p != now.holders[thing] && now.coins[p] >= worth && worth > most) {
                most = worth;
                first = p;
            }
        }
        return first;
    }

    public int keeper(int thing, int rounds) throws NoSuchElementException, IllegalArgumentException {
        needThing(thing);
        needRounds(rounds);
        if (!ending.lay(now, rounds, 0)) {
            return SPENT;
        }
        ending.play(now);
        int fallen = now.standing & ~ending.left;
        for (int d = 0; d < now.deeds; d++) {
            if (now.thingOf[d] == thing && (fallen >> d & 1) == 1) {
                return now.giverOf[d];
            }
        }
        return now.holders[thing];
    }

    public int endFrom(int p) throws NoSuchElementException {
        needPerson(p);
        return leftIn(now, p);
    }

    public int end(int rounds, int what) throws IllegalArgumentException {
        needRounds(rounds);
        boolean ofPerson = what >= 10 && now.hasPerson(what - 10);
        boolean ofTurn = what >= 100 && what - 100 < rounds * now.people;
        if (what != 0 && what != 1 && !ofPerson && !ofTurn) {
            throw new IllegalArgumentException();
        }
        if (!ending.lay(now, rounds, 0)) {
            return SPENT;
        }
        ending.play(now);
        if (ofPerson) {
            return now.wealth(what - 10) + ending.change(what - 10);
        }
        if (ofTurn) {
            return ending.undoneIn(what - 100);
        }
        return what == 0 ? ending.left : ending.undoings();
    }

    public int ringer(int p) throws NoSuchElementException {
        needPerson(p);
        if (!ending.lay(now, 1, 0)) {
            return SPENT;
        }
        ending.play(now);
        return -ending.change(p);
    }

    public int news(int thing, int p, int worth) throws NoSuchElementException, IllegalArgumentException {
        needThing(thing);
        needPerson(p);
        if (worth < 0 || worth > MOST_WORTH) {
            throw new IllegalArgumentException();
        }
        trial.copyFrom(now);
        trial.setWorth(thing, p, worth);
        return leftIn(trial, 0);
    }

    public int bestShare() {
        if (!ending.lay(now, 1, 0)) {
            return SPENT;
        }
        trial.copyFrom(now);
        int all = Integer.bitCount(now.standing);
        int most = NONE;
        int best = 0;
        // When all stand no greater share can beat this one.
        for (int share = 0; share <= MOST_SHARE && most < all; share++) {
            trial.share = share;
            ending.play(trial);
            int stand = Integer.bitCount(ending.left);
            if (stand > most) {
                most = stand;
                best = share;
            }
        }
        return best;
    }

    public int share(int n) throws IllegalArgumentException {
        if (n < 0 || n > MOST_SHARE) {
            throw new IllegalArgumentException();
        }
        int before = now.share;
        now.share = n;
        return before;
    }

    public int hope(int d, int tray, int n, int what) throws NoSuchElementException, IllegalStateException, IllegalArgumentException {
        needDeed(d);
        Tray offers = needTray(tray);
        if (!now.isOpen(d)) {
            throw new IllegalStateException();
        }
        if (n < 1 || n > 6 || what < 0 || what > 2 || !offers.isOffers()) {
            throw new IllegalArgumentException();
        }
        int giver = now.giverOf[d];
        long without = (long) now.gainOf(d, giver) - now.worthTo(now.thingOf[d], giver);
        return offers.hopeIn(without, n, what);
    }

    // ---- swaps

    public int swaps(int k) {
        int found = 0;
        for (int i = 0; i < now.things; i++) {
            for (int j = i + 1; j < now.things; j++) {
                if (now.wants(i, j) && now.wants(j, i)) {
                    if (found == k) {
                        return 100 * i + j;
                    }
                    found++;
                }
            }
        }
        return k == NONE ? found : NONE;
    }

    public int threes(int k) {
        int found = 0;
        for (int i = 0; i < now.things; i++) {
            for (int j = i + 1; j < now.things; j++) {
                for (int l = i + 1; l < now.things; l++) {
                    if (now.isRing(i, j, l)) {
                        if (found == k) {
                            return 10000 * i + 100 * j + l;
                        }
                        found++;
                    }
                }
            }
        }
        return k == NONE ? found : NONE;
    }

    public int misplaced() {
        int bits = 0;
        for (int thing = 0; thing < now.things; thing++) {
            int own = now.worthTo(thing, now.holders[thing]);
            for (int p = 0; p < now.people; p++) {
                if (now.worthTo(thing, p) > own) {
                    bits |= 1 << thing;
                }
            }
        }
        return bits;
    }

    // ---- trays, images

    public void tray(int tray, int sort, int many) throws NoSuchElementException, IllegalArgumentException {
        if (tray < 0 || tray >= TRAYS) {
            throw new NoSuchElementException();
        }
        if (sort < 0 || sort > 3 || many < 0 || many > MOST_PLACES) {
            throw new IllegalArgumentException();
        }
        trays[tray].lay(sort, many);
    }

    public long write(int tray, int place, long v) throws NoSuchElementException, IllegalStateException, IndexOutOfBoundsException {
        Tray row = needTray(tray);
        if (place < 0 || place >= row.many) {
            throw new IndexOutOfBoundsException();
        }
        row.put(place, v);
        return row.row[place];
    }

    public int pour(int tray) throws NoSuchElementException, IllegalStateException {
        Tray row = needTray(tray);
        int poured = 0;
        for (int d = 0; d < now.deeds && poured < row.many; d++) {
            if (now.stands(d)) {
                row.put(poured, now.priceOf[d]);
                poured++;
            }
        }
        return poured;
    }

    public void image(int i) throws NoSuchElementException {
        needImage(i);
        images[i].copyFrom(now);
        imaged[i] = true;
    }

    public void restore(int i) throws NoSuchElementException, IllegalStateException {
        needImage(i);
        if (!imaged[i]) {
            throw new IllegalStateException();
        }
        now.copyFrom(images[i]);
    }

    public int count(int what) {
        switch (what) {
            case 0:
                return now.lines;
            case 1:
                return now.people;
            case 2:
                return now.things;
            case 3:
                return now.deeds;
            case 4:
                return Integer.bitCount(now.standing);
            case 5:
                return now.minute;
            case 6:
                return now.share;
            case 7:
                return now.bell;
            case 8:
                return now.eaten;
            case 9:
                return now.coinsOfAll();
            case 10:
                return now.wealthOfAll();
            case 11:
                return reader.length;
            default:
                return NONE;
        }
    }

    // ---- what several calls share

    private void needPerson(int p) {
        if (!now.hasPerson(p)) {
            throw new NoSuchElementException();
        }
    }

    private void needThing(int thing) {
        if (!now.hasThing(thing)) {
            throw new NoSuchElementException();
        }
    }

    private void needDeed(int d) {
        if (!now.hasDeed(d)) {
            throw new NoSuchElementException();
        }
    }

    private void needImage(int i) {
        if (i < 0 || i >= IMAGES) {
            throw new NoSuchElementException();
        }
    }

    private Tray needTray(int tray) {
        if (tray < 0 || tray >= TRAYS) {
            throw new NoSuchElementException();
        }
        if (trays[tray].missing) {
            throw new IllegalStateException();
        }
        return trays[tray];
    }

    private static void needRounds(int rounds) {
        if (rounds != 1 && rounds != 2) {
            throw new IllegalArgumentException();
        }
    }

    private int temptedBit(int d, int p) {
        return now.gainOf(d, p) > 0 ? 1 << p : 0;
    }

    private int leftIn(Town town, int first) {
        if (!ending.lay(town, 1, first)) {
            return SPENT;
        }
        ending.play(town);
        return ending.left;
    }

    private static int doTold(Town town, Tray told) {
        int done = 0;
        while (done < told.many && whyNoTold(town, told.row[done]) == 0) {
            int d = (int) (told.row[done] >> 1);
            town.fell(d, town.sideOf(d, (int) (told.row[done] & 1)));
            done++;
        }
        return done;
    }

    private static int whyNoTold(Town town, long told) {
        if (told < 0 || told >> 1 >= town.deeds) {
            return 1;
        }
        int d = (int) (told >> 1);
        return town.whyNoUndoing(d, town.sideOf(d, (int) (told & 1)));
    }

    /** The people, things and deeds, and what follows from them at once. */
    private static final class Town {
        int lines;
        int people;
        int things;
        int eaten;
        int share = 50;
        int bell = 720;
        int minute;
        int deeds;
        int standing;
        final int[] coins = new int[MOST_PEOPLE];
        final int[] holders = new int[MOST_THINGS];
        final int[] worths = new int[MOST_THINGS * MOST_PEOPLE];
        final int[] thingOf = new int[MOST_DEEDS];
        final int[] giverOf = new int[MOST_DEEDS];
        final int[] takerOf = new int[MOST_DEEDS];
        final int[] priceOf = new int[MOST_DEEDS];
        final int[] minuteOf = new int[MOST_DEEDS];

        void clear() {
            lines = 0;
            people = 0;
            things = 0;
            eaten = 0;
            share = 50;
            bell = 720;
            minute = 0;
            deeds = 0;
            standing = 0;
            Arrays.fill(coins, 0);
            Arrays.fill(worths, 0);
        }

        void copyFrom(Town from) {
            lines = from.lines;
            people = from.people;
            things = from.things;
            eaten = from.eaten;
            share = from.share;
            bell = from.bell;
            minute = from.minute;
            deeds = from.deeds;
            standing = from.standing;
            System.arraycopy(from.coins, 0, coins, 0, MOST_PEOPLE);
            System.arraycopy(from.holders, 0, holders, 0, MOST_THINGS);
            System.arraycopy(from.worths, 0, worths, 0, MOST_THINGS * MOST_PEOPLE);
            System.arraycopy(from.thingOf, 0, thingOf, 0, MOST_DEEDS);
            System.arraycopy(from.giverOf, 0, giverOf, 0, MOST_DEEDS);
            System.arraycopy(from.takerOf, 0, takerOf, 0, MOST_DEEDS);
            System.arraycopy(from.priceOf, 0, priceOf, 0, MOST_DEEDS);
            System.arraycopy(from.minuteOf, 0, minuteOf, 0, MOST_DEEDS);
        }

        boolean hasPerson(int p) {
            return p >= 0 && p < people;
        }

        boolean hasThing(int thing) {
            return thing >= 0 && thing < things;
        }

        boolean hasDeed(int d) {
            return d >= 0 && d < deeds;
        }

        boolean hasRung() {
            return minute >= bell;
        }

        boolean isEaten(int thing) {
            return (eaten >> thing & 1) == 1;
        }

        boolean stands(int d) {
            return (standing >> d & 1) == 1;
        }

        boolean isOpen(int d) {
            return !hasRung() && stands(d) && !isEaten(thingOf[d]);
        }

        boolean isOf(int d, int p) {
            return giverOf[d] == p || takerOf[d] == p;
        }

        int sideOf(int d, int side) {
            return side == 0 ? giverOf[d] : takerOf[d];
        }

        int openBits() {
            int bits = 0;
            for (int d = 0; d < deeds; d++) {
                if (isOpen(d)) {
                    bits |= 1 << d;
                }
            }
            return bits;
        }

        int worthTo(int thing, int p) {
            return worths[thing * MOST_PEOPLE + p];
        }

        void setWorth(int thing, int p, int worth) {
            worths[thing * MOST_PEOPLE + p] = worth;
        }

        int held(int p) {
            int many = 0;
            for (int thing = 0; thing < things; thing++) {
                if (holders[thing] == p) {
                    many++;
                }
            }
            return many;
        }

        int wealth(int p) {
            int sum = coins[p];
            for (int thing = 0; thing < things; thing++) {
                if (holders[thing] == p) {
                    sum += worthTo(thing, p);
                }
            }
            return sum;
        }

        int coinsOfAll() {
            int sum = 0;
            for (int p = 0; p < people; p++) {
                sum += coins[p];
            }
            return sum;
        }

        int wealthOfAll() {
            int sum = 0;
            for (int p = 0; p < people; p++) {
                sum += wealth(p);
            }
            return sum;
        }

        int worthToGiver(int d) {
            return Math.max(0, priceOf[d] - worthTo(thingOf[d], giverOf[d]));
        }

        int worthToTaker(int d) {
            return Math.max(0, worthTo(thingOf[d], takerOf[d]) - priceOf[d]);
        }

        int cut(int worth) {
            return share * worth / 100;
        }

        int whyNoDeed(int thing, int to, int price) {
            if (!hasThing(thing) || !hasPerson(to) || holders[thing] == to) {
                return 1;
            }
            if (price < 0 || price > MOST_PRICE) {
                return 2;
            }
            if (coins[to] < price) {
                return 3;
            }
            if (hasRung()) {
                return 4;
            }
            if (isEaten(thing)) {
                return 5;
            }
            return deeds >= MOST_DEEDS ? 6 : 0;
        }

        int make(int thing, int to, int price) {
            int d = deeds;
            thingOf[d] = thing;
            giverOf[d] = holders[thing];
            takerOf[d] = to;
            priceOf[d] = price;
            minuteOf[d] = minute;
            standing |= 1 << d;
            deeds++;
            coins[to] -= price;
            coins[holders[thing]] += price;
            holders[thing] = to;
            return d;
        }

        int whyNoUndoing(int d, int by) {
            if (!hasDeed(d)) {
                return 1;
            }
            if (!stands(d)) {
                return 2;
            }
            if (!isOf(d, by)) {
                return 3;
            }
            if (hasRung()) {
                return 4;
            }
            if (isEaten(thingOf[d])) {
                return 5;
            }
            return coins[by] + priceChange(d, by) - owedToAll(d, by) < 0 ? 6 : 0;
        }

        int fell(int d, int by) {
            int bits = fallBits(d);
            for (int p = 0; p < people; p++) {
                int owed = owedTo(d, by, p);
                coins[p] += priceChange(d, p) + owed;
                coins[by] -= owed;
            }
            holders[thingOf[d]] = giverOf[d];
            standing &= ~bits;
            return Integer.bitCount(bits);
        }

        boolean fallsWith(int f, int d) {
            return f >= d && stands(d) && stands(f) && thingOf[f] == thingOf[d];
        }

        int fallBits(int d) {
            int bits = 0;
            for (int f = d; f < deeds; f++) {
                if (fallsWith(f, d)) {
                    bits |= 1 << f;
                }
            }
            return bits;
        }

        /** What the prices that go back bring to a person. */
        int priceChange(int d, int p) {
            int sum = 0;
            for (int f = d; f < deeds; f++) {
                if (fallsWith(f, d)) {
                    sum += takerOf[f] == p ? priceOf[f] : 0;
                    sum -= giverOf[f] == p ? priceOf[f] : 0;
                }
            }
            return sum;
        }

        int owedTo(int d, int by, int to) {
            int sum = 0;
            for (int f = d; f < deeds && to != by; f++) {
                if (fallsWith(f, d)) {
                    sum += giverOf[f] == to ? cut(worthToGiver(f)) : 0;
                    sum += takerOf[f] == to ? cut(worthToTaker(f)) : 0;
                }
            }
            return sum;
        }

        int owedToAll(int d, int by) {
            int sum = 0;
            for (int f = d; f < deeds; f++) {
                if (fallsWith(f, d)) {
                    sum += giverOf[f] == by ? 0 : cut(worthToGiver(f));
                    sum += takerOf[f] == by ? 0 : cut(worthToTaker(f));
                }
            }
            return sum;
        }

        // The thing goes back step by step, and what a step brings to whom no other step changes: so a fall is a sum of parts.
        int partOfUndoer(int f, int p) {
            int thing = thingOf[f];
            int asGiver = giverOf[f] == p ? worthTo(thing, p) - priceOf[f] : -cut(worthToGiver(f));
            int asTaker = takerOf[f] == p ? priceOf[f] - worthTo(thing, p) : -cut(worthToTaker(f));
            return asGiver + asTaker;
        }

        int partOfOther(int f, int p) {
            int thing = thingOf[f];
            int asGiver = giverOf[f] == p ? worthTo(thing, p) - priceOf[f] + cut(worthToGiver(f)) : 0;
            int asTaker = takerOf[f] == p ? priceOf[f] - worthTo(thing, p) + cut(worthToTaker(f)) : 0;
            return asGiver + asTaker;
        }

        int gainOf(int d, int p) {
            int sum = 0;
            for (int f = d; f < deeds; f++) {
                if (fallsWith(f, d)) {
                    sum += partOfUndoer(f, p);
                }
            }
            return sum;
        }

        int topGain(int d) {
            return Math.max(gainOf(d, giverOf[d]), gainOf(d, takerOf[d]));
        }

        /** As a told undoing: 2 times the deed, and 1 more if by its taker. */
        int bestUndoing() {
            int most = 0;
            int best = NONE;
            for (int told = 0; told < 2 * deeds; told++) {
                int d = told >> 1;
                int by = sideOf(d, told & 1);
                int gained = gainOf(d, by);
                if (gained > most && whyNoUndoing(d, by) == 0) {
                    most = gained;
                    best = told;
                }
            }
            return best;
        }

        boolean wouldBeSafe(int thing, int to, int price) {
            int toGiver = worthTo(thing, holders[thing]);
            int toTaker = worthTo(thing, to);
            int giverGain = toGiver - price - cut(Math.max(0, toTaker - price));
            int takerGain = price - toTaker - cut(Math.max(0, price - toGiver));
            return giverGain <= 0 && takerGain <= 0;
        }

        int chainLength(int thing) {
            int length = 0;
            for (int d = 0; d < deeds; d++) {
                if (thingOf[d] == thing && stands(d)) {
                    length++;
                }
            }
            return length;
        }

        /** Whether the holder of a thing would rather have another one's. */
        boolean wants(int own, int other) {
            int p = holders[own];
            return p != holders[other] && !isEaten(own) && !isEaten(other) && worthTo(other, p) > worthTo(own, p);
        }

        boolean isRing(int i, int j, int l) {
            return wants(i, j) && wants(j, l) && wants(l, i);
        }
    }

    /** The tape, and how a text on it is read. */
    private static final class Reader {
        private static final int BAD = 0;
        private static final int END = 1;
        private static final int WORD = 2;
        private static final int NUMBER = 3;
        private static final int SIGN = 4;

        private static final int PEOPLE = 0;
        private static final int COINS = 1;
        private static final int THING = 2;
        private static final int WORTH = 3;
        private static final int SHARE = 4;
        private static final int BELL = 5;
        private static final int EATEN = 6;

        int length;
        int wrong;
        int place = NONE;
        private final byte[] tape = new byte[MOST_BYTES];
        private int limit;
        private int sort;
        private int start;
        private int after;
        private int value;
        private int taken;

        void add(int four) {
            for (int shift = 24; shift >= 0 && length < MOST_BYTES; shift -= 8) {
                tape[length] = (byte) (four >> shift);
                length++;
            }
        }

        boolean read(int n, Town into) {
            limit = n;
            after = 0;
            wrong = 0;
            place = NONE;
            into.clear();
            next();
            for (int i = 0; i < MOST_BYTES && sort != END; i++) {
                int kind = kindOfLine();
                if (!begins(kind, into) || !readNumbers(kind, into) || !closes()) {
                    return false;
                }
                into.lines++;
            }
            return true;
        }

        private int kindOfLine() {
            if (isWord("people")) {
                return PEOPLE;
            }
            if (isWord("coins")) {
                return COINS;
            }
            if (isWord("thing")) {
                return THING;
            }
            if (isWord("worth")) {
                return WORTH;
            }
            if (isWord("share")) {
                return SHARE;
            }
            if (isWord("bell")) {
                return BELL;
            }
            return isWord("eaten") ? EATEN : NONE;
        }

        private boolean begins(int kind, Town into) {
            if (kind == NONE || kind != PEOPLE && into.people == 0) {
                return fails(2);
            }
            if (kind == PEOPLE && into.people > 0 || kind == THING && into.things == MOST_THINGS) {
                return fails(4);
            }
            next();
            return true;
        }

        private boolean closes() {
            if (sort != SIGN) {
                return fails(2);
            }
            next();
            return true;
        }

        private boolean readNumbers(int kind, Town into) {
            switch (kind) {
                case PEOPLE:
                    return readPeople(into);
                case COINS:
                    return readCoins(into);
                case THING:
                    return readThing(into);
                case WORTH:
                    return readWorth(into);
                case SHARE:
                    return readShare(into);
                case BELL:
                    return readBell(into);
                default:
                    return readEaten(into);
            }
        }

        private boolean readPeople(Town into) {
            if (!takes(1, MOST_PEOPLE)) {
                return false;
            }
            into.people = taken;
            return true;
        }

        private boolean readCoins(Town into) {
            if (!takes(0, into.people - 1)) {
                return false;
            }
            int p = taken;
            if (!takes(0, MOST_COINS)) {
                return false;
            }
            into.coins[p] = taken;
            return true;
        }

        private boolean readThing(Town into) {
            if (!takes(0, into.people - 1)) {
                return false;
            }
            into.holders[into.things] = taken;
            for (int p = 0; p < into.people && sort == NUMBER; p++) {
                if (!takes(0, MOST_WORTH)) {
                    return false;
                }
                into.setWorth(into.things, p, taken);
            }
            into.things++;
            return sort != NUMBER || fails(value > MOST_WORTH ? 3 : 4);
        }

        private boolean readWorth(Town into) {
            if (!takes(0, into.things - 1)) {
                return false;
            }
            int thing = taken;
            if (!takes(0, into.people - 1)) {
                return false;
            }
            int p = taken;
            if (!takes(0, MOST_WORTH)) {
                return false;
            }
            into.setWorth(thing, p, taken);
            return true;
        }

        private boolean readShare(Town into) {
            if (!takes(0, MOST_SHARE)) {
                return false;
            }
            into.share = taken;
            return true;
        }

        private boolean readBell(Town into) {
            if (!takes(1, MOST_BELL)) {
                return false;
            }
            into.bell = taken;
            return true;
        }

        private boolean readEaten(Town into) {
            if (!takes(0, into.things - 1)) {
                return false;
            }
            into.eaten |= 1 << taken;
            return true;
        }

        private boolean takes(int least, int most) {
            if (sort != NUMBER) {
                return fails(2);
            }
            if (value < least || value > most) {
                return fails(3);
            }
            taken = value;
            next();
            return true;
        }

        private boolean fails(int kind) {
            wrong = sort == BAD ? 1 : kind;
            place = start;
            return false;
        }

        private boolean isWord(String word) {
            if (sort != WORD || after - start != word.length()) {
                return false;
            }
            for (int i = 0; i < word.length(); i++) {
                if (tape[start + i] != word.charAt(i)) {
                    return false;
                }
            }
            return true;
        }

        private void next() {
            start = after;
            while (start < limit && (tape[start] == 10 || tape[start] == 32)) {
                start++;
            }
            after = start;
            if (start >= limit) {
                sort = END;
            } else if (takeRun('a', 'z')) {
                sort = WORD;
            } else if (takeRun('0', '9')) {
                sort = after - start > 4 ? BAD : NUMBER;
                value = valueOfRun();
            } else {
                sort = tape[start] == ';' ? SIGN : BAD;
                after = start + 1;
            }
        }

        private boolean takeRun(int least, int most) {
            while (after < limit && tape[after] >= least && tape[after] <= most) {
                after++;
            }
            return after > start;
        }

        private int valueOfRun() {
            int sum = 0;
            // More digits than four are no number, so none beyond them counts.
            for (int at = start; at < after && at < start + 4; at++) {
                sum = sum * 10 + tape[at] - '0';
            }
            return sum;
        }
    }

    /** A row of numbers of one sort. */
    private static final class Tray {
        boolean missing = true;
        int many;
        final long[] row = new long[MOST_PLACES];
        private int sort;

        void lay(int ofSort, int places) {
            missing = false;
            sort = ofSort;
            many = places;
            Arrays.fill(row, 0L);
        }

        void put(int place, long v) {
            row[place] = cutToSort(v);
        }

        private long cutToSort(long v) {
            switch (sort) {
                case 0:
                    return (byte) v;
                case 1:
                    return (short) v;
                case 2:
                    return (int) v;
                default:
                    return v;
            }
        }

        boolean isOffers() {
            if (many < 1 || many > MOST_OFFERS) {
                return false;
            }
            for (int i = 0; i < many; i++) {
                if (row[i] < 0 || row[i] > MOST_PRICE) {
                    return false;
                }
            }
            return true;
        }

        /** Without: what the giver has more by the undoing alone, the thing not counted. */
        int hopeIn(long without, int n, int what) {
            // Hopes are kept as numbers of 1 / parts, so that nothing is cut before the end.
            long parts = 1;
            long hope = 0;
            for (int i = 1; i < n; i++) {
                hope = hopeAhead(without, parts, hope);
                parts *= many;
            }
            if (what == 2) {
                return leastTaken(without, parts, hope);
            }
            hope = hopeAhead(without, parts, hope);
            parts *= many;
            return parts <= 0 ? 0 : (int) (what == 0 ? hope / parts : hope % parts);
        }

        private long hopeAhead(long without, long parts, long hope) {
            long sum = 0;
            for (int i = 0; i < many; i++) {
                sum += Math.max(hope, (row[i] + without) * parts);
            }
            return sum;
        }

        private int leastTaken(long without, long parts, long hope) {
            int least = NONE;
            for (int i = 0; i < many; i++) {
                if ((row[i] + without) * parts >= hope && (least == NONE || row[i] < least)) {
                    least = (int) row[i];
                }
            }
            return least;
        }
    }

    /** The draws of a day. */
    private static final class Draws {
        private int x;

        Draws(int seed) {
            x = seed;
        }

        private int draw(int below) {
            x = 1103515245 * x + 12345;
            return below <= 0 ? 0 : (x >>> 16) % below;
        }

        int spend(Town town, int times) {
            int done = 0;
            for (int i = 0; i < times; i++) {
                if (draw(3) == 2 ? undoes(town) : deals(town)) {
                    done++;
                }
            }
            return done;
        }

        private boolean deals(Town town) {
            int thing = draw(town.things);
            int to = draw(town.people);
            int price = draw(100);
            if (town.whyNoDeed(thing, to, price) != 0) {
                return false;
            }
            town.make(thing, to, price);
            return true;
        }

        private boolean undoes(Town town) {
            if (town.deeds == 0) {
                return false;
            }
            int d = draw(town.deeds);
            int by = town.sideOf(d, draw(2));
            if (town.whyNoUndoing(d, by) != 0) {
                return false;
            }
            town.fell(d, by);
            return true;
        }
    }

    /**
     * The end of the day, reckoned back from its last turn. What an undoing brings depends on the open deeds that still stand
     * and on no one's coins, so these (as bits, a state) are all that a turn has to know.
     */
    private static final class Ending {
        int left;
        private int people;
        private int first;
        private int turns;
        private int many;
        private final int[] deedAt = new int[MOST_OPEN];
        private final int[] withIt = new int[MOST_OPEN];
        // By person: his open deeds, and how many they are.
        private final int[] mine = new int[MOST_PEOPLE * MOST_OPEN];
        private final int[] mineMany = new int[MOST_PEOPLE];
        private final int[] undoerParts = new int[MOST_PEOPLE * MOST_OPEN];
        private final int[] otherParts = new int[MOST_PEOPLE * MOST_OPEN];
        // By state and person: by how much his wealth will be more in the end.
        private final int[] ahead = new int[STATES * MOST_PEOPLE];
        // By state: a bit for each turn that can find it, and for the end.
        private final int[] reached = new int[STATES];
        // By state: four bits for each turn, 0 for nothing, else 1 more than the open deed.
        private final long[] choices = new long[STATES];
        private final int[] undone = new int[MOST_TURNS];

        /** What doesn't change with share and worths; false: too many are open. */
        boolean lay(Town town, int rounds, int from) {
            int open = town.openBits();
            if (Integer.bitCount(open) > MOST_OPEN) {
                return false;
            }
            people = town.people;
            first = from;
            turns = rounds * people;
            many = 0;
            Arrays.fill(mineMany, 0);
            for (int d = 0; d < town.deeds && many < MOST_OPEN; d++) {
                if ((open >> d & 1) == 1) {
                    layDeed(town, d);
                }
            }
            reach();
            return true;
        }

        private void layDeed(Town town, int d) {
            deedAt[many] = d;
            withIt[many] = 0;
            for (int i = 0; i <= many; i++) {
                if (town.thingOf[deedAt[i]] == town.thingOf[d]) {
                    withIt[i] |= 1 << many;
                }
            }
            layFor(town.giverOf[d]);
            layFor(town.takerOf[d]);
            many++;
        }

        private void layFor(int p) {
            mine[p * MOST_OPEN + mineMany[p]] = many;
            mineMany[p]++;
        }

        private int whole() {
            return (1 << many) - 1;
        }

        private int personIn(int turn) {
            return people <= 0 ? 0 : (first + turn) % people;
        }

        private void reach() {
            int whole = whole();
            for (int state = 0; state < whole; state++) {
                reached[state] = 0;
            }
            reached[whole] = 1;
            for (int turn = 0; turn < turns; turn++) {
                int p = personIn(turn);
                for (int state = whole; state >= 0; state--) {
                    if ((reached[state] >> turn & 1) == 1) {
                        reachFrom(state, turn, p);
                    }
                }
            }
        }

        private void reachFrom(int state, int turn, int p) {
            int then = 1 << turn + 1;
            reached[state] |= then;
            for (int k = 0; k < mineMany[p]; k++) {
                int i = mine[p * MOST_OPEN + k];
                if ((state >> i & 1) == 1) {
                    reached[state & ~withIt[i]] |= then;
                }
            }
        }

        void play(Town town) {
            int whole = whole();
            weigh(town);
            for (int state = 0; state <= whole; state++) {
                forget(state);
            }
            for (int turn = turns - 1; turn >= 0; turn--) {
                int p = personIn(turn);
                // Downwards: what an undoing leads to is a lesser state, and still tells of the next turn.
                for (int state = whole; state >= 0; state--) {
                    if ((reached[state] >> turn & 1) == 1) {
                        choose(state, turn, p);
                    }
                }
            }
            walk(town);
        }

        private void forget(int state) {
            choices[state] = 0;
            for (int p = 0; p < people && reached[state] != 0; p++) {
                ahead[state * MOST_PEOPLE + p] = 0;
            }
        }

        private void weigh(Town town) {
            for (int p = 0; p < people; p++) {
                for (int i = 0; i < many; i++) {
                    undoerParts[p * MOST_OPEN + i] = town.partOfUndoer(deedAt[i], p);
                    otherParts[p * MOST_OPEN + i] = town.partOfOther(deedAt[i], p);
                }
            }
        }

        private void choose(int state, int turn, int p) {
            int most = ahead[state * MOST_PEOPLE + p];
            int best = NONE;
            for (int k = 0; k < mineMany[p]; k++) {
                int i = mine[p * MOST_OPEN + k];
                if ((state >> i & 1) == 1) {
                    int fallen = state & withIt[i];
                    int sum = sumOf(undoerParts, p, fallen, i) + ahead[(state & ~fallen) * MOST_PEOPLE + p];
                    if (sum > most) {
                        most = sum;
                        best = i;
                    }
                }
            }
            if (best != NONE) {
                settle(state, best, p);
                choices[state] |= (long) (best + 1) << 4 * turn;
            }
        }

        private void settle(int state, int best, int by) {
            int fallen = state & withIt[best];
            int then = (state & ~fallen) * MOST_PEOPLE;
            for (int p = 0; p < people; p++) {
                int part = sumOf(p == by ? undoerParts : otherParts, p, fallen, best);
                ahead[state * MOST_PEOPLE + p] = ahead[then + p] + part;
            }
        }

        private int sumOf(int[] parts, int p, int fallen, int from) {
            int sum = 0;
            for (int i = from; i < many && fallen >> i != 0; i++) {
                if ((fallen >> i & 1) == 1) {
                    sum += parts[p * MOST_OPEN + i];
                }
            }
            return sum;
        }

        private void walk(Town town) {
            int state = whole();
            for (int turn = 0; turn < turns; turn++) {
                int i = (int) (choices[state] >>> 4 * turn & 15) - 1;
                undone[turn] = i < 0 ? NONE : deedAt[i];
                state = i < 0 ? state : state & ~withIt[i];
            }
            left = town.standing;
            for (int i = 0; i < many; i++) {
                if ((state >> i & 1) == 0) {
                    left &= ~(1 << deedAt[i]);
                }
            }
        }

        /** By how much a person's wealth is more in the end. */
        int change(int p) {
            return ahead[whole() * MOST_PEOPLE + p];
        }

        int undoneIn(int turn) {
            return turn >= 0 && turn < turns ? undone[turn] : NONE;
        }

        int undoings() {
            int sum = 0;
            for (int turn = 0; turn < turns; turn++) {
                sum += undone[turn] == NONE ? 0 : 1;
            }
            return sum;
        }
    }
}
