/**
 * The mayor's chair goes to the poorest street. ../shared/DOC.md says what each call answers; here is
 * how it is held: one town as it stands, one town to try things on, and piles of towns as they stood.
 * All rows are made in the constructor, so that no later call makes an object.
 */
public final class MayorsChair {
    public static final int BAD = -1, NO = -2, FULL = -3, NONE = -4;

    private static final int PROUD = 1, SLY = 2, SPENDING = 3;
    private static final int KINDS = 4, MOST_USE = 9;
    private static final int MOST_LETTERS = 200, MOST_STREETS = 6, MOST_WORKS = 6;
    private static final int LEAST_STREETS = 2, LEAST_WORKS = 1;
    private static final int MOST_LAID_WEALTH = 99, MOST_WORTH = 40;
    private static final int MOST_WEALTH = 999, TOO_RICH_TO_BE_GIVEN = 960;
    private static final int PROUD_MORE = 5, SLY_LESS = 5;
    private static final int MOST_MUD = 40, MOST_GIVEN = 40;
    private static final int LAST_QUARTER = 999, MOST_PASSED = 20;
    private static final int MOST_BEHIND = 60, MOST_APART = 99, MOST_PLANNED = 40;
    private static final int MOST_SEEN = 6, MOST_UNDONE = 8, MOST_KEPT = 2;
    private static final int MOST_ASTRAY = 8, TEN = 10;
    private static final int MOST_DECADE = 9999, MOST_ORDERS = 720;
    /** A number that no street, work, figure or amount has. */
    private static final int NONE_SUCH = -1;

    private final Scroll scroll;
    private final Town town;
    private final Town trial;
    private final Pile past;
    private final Pile store;
    private final Sightings sightings;
    private final Orders orders;

    public MayorsChair() {
        scroll = new Scroll();
        town = new Town();
        trial = new Town();
        past = new Pile(MOST_UNDONE);
        store = new Pile(MOST_KEPT);
        sightings = new Sightings();
        orders = new Orders();
        town.addStreet(0, 20, 2);
        town.addStreet(PROUD, 8, 1);
        town.addStreet(SLY, 14, 3);
        town.addStreet(SPENDING, 10, 1);
        town.addStreet(0, 0, 0);
        town.addWork(9);
        town.addWork(4);
        town.addWork(15);
    }

    // ---- towns

    public int write(int letter) {
        if (!within(letter, 32, 126)) {
            return BAD;
        }
        return scroll.append((char) letter) ? scroll.length : FULL;
    }

    public int wipe() {
        int was = scroll.length;
        scroll.length = 0;
        return was;
    }

    public int fault() {
        return scroll.readInto(trial);
    }

    public int lay() {
        if (scroll.readInto(trial) != NONE || trial.streets < LEAST_STREETS || trial.works < LEAST_WORKS) {
            return NO;
        }
        town.become(trial);
        past.size = 0;
        store.size = 0;
        sightings.size = 0;
        return town.streets;
    }

    public int street(int s, int what) {
        if (!town.hasStreet(s)) {
            return BAD;
        }
        switch (what) {
            case 0: return town.kind[s];
            case 1: return town.wealth[s];
            case 2: return town.use[s];
            case 3: return town.looks(s);
            case 4: return town.dirt[s];
            case 5: return town.stood[s];
            default: return BAD;
        }
    }

    public int work(int k) {
        return town.hasWork(k) ? town.worth[k] : BAD;
    }

    // ---- acts

    public int pass(int n) {
        if (!within(n, 1, MOST_PASSED)) {
            return BAD;
        }
        if (town.quarter + n > LAST_QUARTER) {
            return NO;
        }
        past.put(town);
        town.letPass(n);
        return town.chair;
    }

    public int mud(int s, int m) {
        if (!town.hasStreet(s) || !within(m, 0, MOST_MUD)) {
            return BAD;
        }
        int was = town.dirt[s];
        if (was == m) {
            return NO;
        }
        past.put(town);
        town.dirt[s] = m;
        return was;
    }

    public int give(int s, int to, int g) {
        if (!town.hasStreet(s) || !town.hasStreet(to) || s == to || !within(g, 1, MOST_GIVEN)) {
            return BAD;
        }
        if (!town.canHand(s, to, g)) {
            return NO;
        }
        past.put(town);
        town.hand(s, to, g);
        return town.wealth[s];
    }

    public int change(int a, int b) {
        if (!town.hasWork(a) || !town.hasWork(b) || a == b) {
            return BAD;
        }
        past.put(town);
        int worth = town.worth[a];
        town.worth[a] = town.worth[b];
        town.worth[b] = worth;
        return town.worthNow();
    }

    public int undo() {
        return past.takeInto(town) ? past.size : NO;
    }

    // ---- what comes, what is best

    public int behind(int n, int s, int what) {
        if (!within(n, 0, MOST_BEHIND) || !town.hasStreet(s) || !within(what, 0, 1)) {
            return BAD;
        }
        trial.become(town);
        trial.letPass(n);
        return what == 0 ? trial.wealth[s] : trial.stood[s];
    }

    public int first(int s) {
        if (!town.hasStreet(s)) {
            return BAD;
        }
        trial.become(town);
        for (int n = 1; n <= MOST_BEHIND; n++) {
            trial.nextQuarter(false);
            if (trial.chair == s) {
                return n;
            }
        }
        return NONE;
    }

    public int even(int d) {
        if (!within(d, 0, MOST_APART)) {
            return BAD;
        }
        trial.become(town);
        for (int n = 0; n <= MOST_BEHIND; n++) {
            if (trial.richestWealth() - trial.poorestWealth() <= d) {
                return n;
            }
            trial.nextQuarter(false);
        }
        return NONE;
    }

    public int order(int n, int k) {
        if (!within(n, 1, MOST_PLANNED) || !(k == NONE_SUCH || town.hasWork(k))) {
            return BAD;
        }
        int most = orders.findBest(town, trial, n);
        return k == NONE_SUCH ? most : orders.best[k];
    }

    public int paint(int s) {
        if (!town.hasStreet(s)) {
            return BAD;
        }
        for (int m = 0; m <= MOST_MUD; m++) {
            trial.become(town);
            trial.dirt[s] = m;
            trial.nextQuarter(false);
            if (trial.chair == s) {
                return m;
            }
        }
        return NONE;
    }

    public int help(int g, int n, int what) {
        if (!within(g, 1, MOST_GIVEN) || !within(n, 0, MOST_PLANNED) || !within(what, 0, 1)) {
            return BAD;
        }
        int which = 0;
        int most = NONE_SUCH;
        for (int s = 0; s < town.streets; s++) {
            int much = poorestHelped(s, g, n);
            if (much > most) {
                which = s;
                most = much;
            }
        }
        return what == 0 ? which : most;
    }

    private int poorestHelped(int s, int g, int n) {
        trial.become(town);
        trial.enrich(s, g);
        trial.letPass(n);
        return trial.poorestWealth();
    }

    // ---- what was seen

    public int seen(int n, int s) {
        if (!within(n, 1, MOST_PLANNED) || !town.hasStreet(s)) {
            return BAD;
        }
        return sightings.append(n, s) ? sightings.size : FULL;
    }

    public int forget() {
        int were = sightings.size;
        sightings.size = 0;
        return were;
    }

    public int kinds(int s) {
        if (!town.hasStreet(s)) {
            return BAD;
        }
        int bits = 0;
        for (int kind = 0; kind < KINDS; kind++) {
            trial.become(town);
            trial.kind[s] = kind;
            if (sightings.comeTrueIn(trial)) {
                bits |= 1 << kind;
            }
        }
        return bits;
    }

    public int uses(int s) {
        if (!town.hasStreet(s)) {
            return BAD;
        }
        int bits = 0;
        for (int use = 0; use <= MOST_USE; use++) {
            trial.become(town);
            trial.use[s] = use;
            if (sightings.comeTrueIn(trial)) {
                bits |= 1 << use;
            }
        }
        return bits;
    }

    // ---- chances, decades

    public int likely(int s, int n, int x, int part) {
        if (!town.hasStreet(s) || !within(n, 1, MOST_ASTRAY) || !within(x, 0, TEN) || !within(part, 0, 1)) {
            return BAD;
        }
        int above = 0;
        for (int ways = 0; ways < 1 << n; ways++) {
            if (chairBehind(ways, n) == s) {
                int astray = Integer.bitCount(ways);
                above += power(x, astray) * power(TEN - x, n - astray);
            }
        }
        int below = power(TEN, n);
        int common = greatestCommon(below, above);
        return (part == 0 ? above : below) / Math.max(common, 1);
    }

    /** The i-th bit of ways tells whether the men lose their way in the i-th quarter. */
    private int chairBehind(int ways, int n) {
        trial.become(town);
        for (int i = 0; i < n; i++) {
            trial.nextQuarter((ways >> i & 1) == 1);
        }
        return trial.chair;
    }

    private static int power(int base, int times) {
        int product = 1;
        for (int i = 0; i < times; i++) {
            product *= base;
        }
        return product;
    }

    private static int greatestCommon(int a, int b) {
        int larger = a;
        int smaller = b;
        // Numbers of an int's size need some 45 rounds at most.
        for (int round = 0; round < 100 && smaller != 0; round++) {
            int rest = larger % smaller;
            larger = smaller;
            smaller = rest;
        }
        return larger;
    }

    public int decade(int z, int n, int what) {
        if (!within(z, 0, MOST_DECADE) || !within(n, 1, MOST_BEHIND) || !within(what, 0, 2)) {
            return BAD;
        }
        trial.become(town);
        trial.firewood = 0;
        for (int i = 0; i < n; i++) {
            trial.suffer(draw(z, i));
            trial.nextQuarter(false);
        }
        switch (what) {
            case 0: return trial.totalWealth();
            case 1: return trial.chair;
            default: return trial.firewood;
        }
    }

    private static int draw(int z, int quarter) {
        // Its square goes beyond an int.
        long x = 7919L * z + 6151L * quarter + 1L;
        return (int) (x * x % 65521L / 2L);
    }

    // ---- kept

    public int keep() {
        if (store.size >= MOST_KEPT) {
            return FULL;
        }
        store.put(town);
        return store.size;
    }

    public int back() {
        if (!store.takeInto(town)) {
            return NO;
        }
        past.size = 0;
        return store.size;
    }

    public int count(int what) {
        switch (what) {
            case 0: return town.streets;
            case 1: return town.works;
            case 2: return town.quarter;
            case 3: return town.chair;
            case 4: return town.totalWealth();
            case 5: return town.firewood;
            case 6: return town.turn();
            case 7: return sightings.size;
            case 8: return past.size;
            case 9: return store.size;
            case 10: return scroll.length;
            default: return BAD;
        }
    }

    private static boolean within(int number, int least, int most) {
        return number >= least && number <= most;
    }

    /** A town at one moment: all that an act, a quarter or back() can make another. */
    private static final class Town {
        final int[] kind;
        final int[] wealth;
        final int[] use;
        final int[] dirt;
        final int[] stood;
        final int[] worth;
        int streets;
        int works;
        int quarter;
        int chair;
        int firewood;

        Town() {
            kind = new int[MOST_STREETS];
            wealth = new int[MOST_STREETS];
            use = new int[MOST_STREETS];
            dirt = new int[MOST_STREETS];
            stood = new int[MOST_STREETS];
            worth = new int[MOST_WORKS];
            chair = NONE;
        }

        void empty() {
            streets = 0;
            works = 0;
            quarter = 0;
            chair = NONE;
            firewood = 0;
        }

        boolean addStreet(int itsKind, int itsWealth, int itsUse) {
            if (streets >= MOST_STREETS || !within(itsKind, 0, KINDS - 1)
                    || !within(itsWealth, 0, MOST_LAID_WEALTH) || !within(itsUse, 0, MOST_USE)) {
                return false;
            }
            kind[streets] = itsKind;
            wealth[streets] = itsWealth;
            use[streets] = itsUse;
            dirt[streets] = 0;
            stood[streets] = 0;
            streets++;
            return true;
        }

        boolean addWork(int itsWorth) {
            if (works >= MOST_WORKS || !within(itsWorth, 1, MOST_WORTH)) {
                return false;
            }
            worth[works] = itsWorth;
            works++;
            return true;
        }

        void become(Town other) {
            for (int s = 0; s < MOST_STREETS; s++) {
                kind[s] = other.kind[s];
                wealth[s] = other.wealth[s];
                use[s] = other.use[s];
                dirt[s] = other.dirt[s];
                stood[s] = other.stood[s];
            }
            for (int k = 0; k < MOST_WORKS; k++) {
                worth[k] = other.worth[k];
            }
            streets = other.streets;
            works = other.works;
            quarter = other.quarter;
            chair = other.chair;
            firewood = other.firewood;
        }

        boolean hasStreet(int s) {
            return s >= 0 && s < streets;
        }

        boolean hasWork(int k) {
            return k >= 0 && k < works;
        }

        /** The turn goes on in every quarter, so that the quarter's number tells it. */
        int turn() {
            return works > 0 ? quarter % works : 0;
        }

        int worthNow() {
            int k = turn();
            return hasWork(k) ? worth[k] : 0;
        }

        int looks(int s) {
            int seeming = wealth[s];
            switch (kind[s]) {
                case PROUD: seeming += PROUD_MORE; break;
                case SLY: seeming = Math.max(seeming - SLY_LESS, 0); break;
                case SPENDING: seeming /= 2; break;
                default: break;
            }
            return Math.max(seeming - dirt[s], 0);
        }

        void letPass(int n) {
            for (int i = 0; i < n; i++) {
                nextQuarter(false);
            }
        }

        void nextQuarter(boolean astray) {
            for (int s = 0; s < streets; s++) {
                wealth[s] = Math.max(wealth[s] - use[s], 0);
            }
            int goal = poorestLooking(NONE_SUCH);
            stand(astray ? poorestLooking(goal) : goal);
            quarter++;
        }

        int poorestLooking(int leftOut) {
            int poorest = NONE_SUCH;
            int least = 0;
            for (int s = 0; s < streets; s++) {
                int seeming = looks(s);
                if (s != leftOut && (poorest == NONE_SUCH || seeming < least)) {
                    poorest = s;
                    least = seeming;
                }
            }
            return poorest;
        }

        void stand(int s) {
            if (!hasStreet(s)) {
                return;
            }
            if (wealth[s] == 0) {
                firewood++;
            } else {
                enrich(s, kind[s] == SPENDING ? worthNow() / 2 : worthNow());
            }
            dirt[s] = 0;
            stood[s]++;
            chair = s;
        }

        void enrich(int s, int more) {
            wealth[s] = Math.min(wealth[s] + more, MOST_WEALTH);
        }

        boolean canHand(int s, int to, int g) {
            return s != to && wealth[s] >= g && wealth[to] < TOO_RICH_TO_BE_GIVEN;
        }

        void hand(int s, int to, int g) {
            wealth[s] -= g;
            wealth[to] += g;
        }

        /** What a draw of a decade does ahead of a quarter. */
        void suffer(int draw) {
            if (streets <= 0 || draw < 0) {
                return;
            }
            int s = draw % streets;
            int further = draw / 64;
            switch (draw / 8 % 4) {
                case 0:
                    dirt[s] = further % 12;
                    break;
                case 1:
                    if (canHand(s, further % streets, 1)) {
                        hand(s, further % streets, 1);
                    }
                    break;
                case 2:
                    wealth[s] = 0;
                    break;
                default:
                    break;
            }
        }

        int poorestWealth() {
            int least = wealth[0];
            for (int s = 1; s < streets; s++) {
                least = Math.min(least, wealth[s]);
            }
            return least;
        }

        int richestWealth() {
            int most = wealth[0];
            for (int s = 1; s < streets; s++) {
                most = Math.max(most, wealth[s]);
            }
            return most;
        }

        int totalWealth() {
            int total = 0;
            for (int s = 0; s < streets; s++) {
                total += wealth[s];
            }
            return total;
        }
    }

    /** Towns as they stood, the latest on top; the lowest goes when there is no room. */
    private static final class Pile {
        final Town[] towns;
        int size;

        Pile(int room) {
            towns = new Town[Math.max(room, 1)];
            for (int i = 0; i < towns.length; i++) {
                towns[i] = new Town();
            }
        }

        void put(Town town) {
            if (size >= towns.length) {
                dropLowest();
            }
            towns[size].become(town);
            size++;
        }

        void dropLowest() {
            Town lowest = towns[0];
            for (int i = 1; i < towns.length; i++) {
                towns[i - 1] = towns[i];
            }
            towns[towns.length - 1] = lowest;
            size = towns.length - 1;
        }

        boolean takeInto(Town town) {
            if (size <= 0) {
                return false;
            }
            size--;
            town.become(towns[size]);
            return true;
        }
    }

    /** The text, and the reading of its items from place on. */
    private static final class Scroll {
        final char[] letters;
        int length;
        int place;

        Scroll() {
            letters = new char[MOST_LETTERS];
        }

        boolean append(char letter) {
            if (length >= letters.length) {
                return false;
            }
            letters[length] = letter;
            length++;
            return true;
        }

        /** Where the first faulty item begins, or NONE; the town has the items ahead of that. */
        int readInto(Town town) {
            town.empty();
            place = 0;
            for (int item = 0; item < MOST_LETTERS && place < length; item++) {
                int start = place;
                if (!readItem(town)) {
                    return start;
                }
            }
            return NONE;
        }

        boolean readItem(Town town) {
            if (takes('s')) {
                int kind = number(',');
                int wealth = number(',');
                int use = number(';');
                return town.addStreet(kind, wealth, use);
            }
            return takes('w') && town.addWork(number(';'));
        }

        boolean takes(char letter) {
            if (place >= length || letters[place] != letter) {
                return false;
            }
            place++;
            return true;
        }

        /** One or two figures and the sign behind them; NONE_SUCH, which nothing in a town can be, else. */
        int number(char sign) {
            int value = figure();
            if (value == NONE_SUCH) {
                return NONE_SUCH;
            }
            int second = figure();
            if (second != NONE_SUCH) {
                value = value * 10 + second;
            }
            return takes(sign) ? value : NONE_SUCH;
        }

        int figure() {
            if (place >= length || letters[place] < '0' || letters[place] > '9') {
                return NONE_SUCH;
            }
            int value = letters[place] - '0';
            place++;
            return value;
        }
    }

    /** What was seen: behind how many quarters the chair stands in which street. */
    private static final class Sightings {
        final int[] quarters;
        final int[] places;
        int size;

        Sightings() {
            quarters = new int[MOST_SEEN];
            places = new int[MOST_SEEN];
        }

        boolean append(int n, int s) {
            if (size >= MOST_SEEN) {
                return false;
            }
            quarters[size] = n;
            places[size] = s;
            size++;
            return true;
        }

        /** Quarters go by in the town until all that was seen is looked at. */
        boolean comeTrueIn(Town town) {
            int last = 0;
            for (int i = 0; i < size; i++) {
                last = Math.max(last, quarters[i]);
            }
            for (int n = 1; n <= last; n++) {
                town.nextQuarter(false);
                if (!agree(n, town.chair)) {
                    return false;
                }
            }
            return true;
        }

        boolean agree(int n, int s) {
            for (int i = 0; i < size; i++) {
                if (quarters[i] == n && places[i] != s) {
                    return false;
                }
            }
            return true;
        }
    }

    /** The orders of the works, gone through as a dictionary has them, so that of several the first is best. */
    private static final class Orders {
        final int[] tried;
        final int[] best;

        Orders() {
            tried = new int[MOST_WORKS];
            best = new int[MOST_WORKS];
        }

        int findBest(Town town, Town trial, int n) {
            int works = town.works;
            for (int k = 0; k < MOST_WORKS; k++) {
                tried[k] = k;
            }
            int most = NONE_SUCH;
            for (int i = 0; i < MOST_ORDERS; i++) {
                putOtherwise(town, trial);
                trial.letPass(n);
                int much = trial.poorestWealth();
                if (much > most) {
                    most = much;
                    noteBest();
                }
                if (!advance(works)) {
                    break;
                }
            }
            return most;
        }

        void putOtherwise(Town town, Town trial) {
            trial.become(town);
            for (int k = 0; k < town.works; k++) {
                trial.worth[k] = town.worth[tried[k]];
            }
        }

        void noteBest() {
            for (int k = 0; k < MOST_WORKS; k++) {
                best[k] = tried[k];
            }
        }

        /** To the next order of the first so many works; false behind the last one. */
        boolean advance(int works) {
            int pivot = works - 2;
            while (pivot >= 0 && tried[pivot] > tried[pivot + 1]) {
                pivot--;
            }
            if (pivot < 0) {
                return false;
            }
            int next = works - 1;
            while (next > pivot && tried[next] < tried[pivot]) {
                next--;
            }
            swap(pivot, next);
            int left = pivot + 1;
            int right = works - 1;
            while (left < right) {
                swap(left, right);
                left++;
                right--;
            }
            return true;
        }

        void swap(int a, int b) {
            int one = tried[a];
            tried[a] = tried[b];
            tried[b] = one;
        }
    }
}
