/** Weather that was put out to tender; shared/DOC.md says, promise by promise, what each call answers. */
public final class SkyTenders {
    public static final int UNKNOWN = -1, BAD = -2, LATE = -3, FULL = -4, NONE = -9;

    private static final int MOST_FIELDS = 4;
    private static final int MOST_MAKERS = 4;
    private static final int MOST_LETTERS = 60;
    private static final int MOST_DOINGS = 14;
    private static final int MOST_SEEN = 6;
    private static final int MOST_JUDGED = 4;
    private static final int MOST_DRAWS = 20;
    private static final int MOST_UNITS = 5;
    private static final int MOST_PATIENCE = 4;
    private static final int SLOTS = 2;
    private static final int TOP_FIGURE = 9;
    // Four stocks of nine units, and every year takes one unit at least.
    private static final int MOST_YEARS = MOST_MAKERS * TOP_FIGURE;
    // 10000 and less, halved by every second step of Euclid's.
    private static final int EUCLID_STEPS = 40;

    // How a field is served, beside the makers' own numbers.
    private static final int SECOND_HAND = 9;
    private static final int WITHOUT = -1;

    // What a told doing is; the first four change something.
    private static final int PRICED = 1;
    private static final int STOCKED = 2;
    private static final int WANTED = 3;
    private static final int BORNE = 4;
    private static final int SERVED = 5;
    private static final int AFFORDED = 6;
    private static final int REACHED = 7;
    private static final int FIGURES_OF_A_DOING = 4;

    private static final long STEP_FACTOR = 6364136223846793005L;
    private static final long STEP_ADDED = 1442695040888963407L;

    // In how many orders 0 .. 4 makers come.
    private static final int[] ORDERS = {1, 1, 2, 6, 24};

    private final Text text = new Text();
    private final Tender now = new Tender();
    // What would be is tried here, so that nothing needs to be put back.
    private final Tender trial = new Tender();
    private final Search search = new Search();
    private final Run run = new Run();
    private final Doings doings = new Doings();
    private final Seen seen = new Seen();
    private final Tender[] kept = new Tender[SLOTS];
    private final int[] figures = new int[MOST_JUDGED * FIGURES_OF_A_DOING];
    // Bits of the slots in which something is kept.
    private int keptSlots = 0;
    private long theSeed = 0;

    public SkyTenders() {
        for (int slot = 0; slot < SLOTS; slot++) {
            kept[slot] = new Tender();
        }
    }

    // ---- the tender

    public int write(int letter) {
        if (letter < 0 || letter > 255) {
            return BAD;
        }
        return text.append(letter) ? text.length : FULL;
    }

    public int wipe() {
        int was = text.length;
        text.length = 0;
        return was;
    }

    public int fault() {
        return text.readInto(trial);
    }

    public int tender() {
        if (text.readInto(trial) != NONE) {
            return LATE;
        }
        trial.patience = now.patience;
        now.become(trial);
        doings.count = 0;
        keptSlots = 0;
        return now.makers;
    }

    public int about(int what) {
        switch (what) {
            case 0: return now.fields;
            case 1: return now.makers;
            case 2: return now.patience;
            case 3: return cheapest(now, now.allMakers());
            case 4: return mostServed(now, now.allMakers());
            case 5: runYears(); return run.years;
            case 6: return doings.count;
            case 7: return seen.count;
            case 8: return text.length;
            default: return BAD;
        }
    }

    public int field(int field, int what) {
        if (!now.hasField(field)) {
            return UNKNOWN;
        }
        switch (what) {
            case 0: return now.weather[field];
            case 1: return now.units[field];
            case 2: return cheapest(now, now.allMakers()) == NONE ? NONE : search.by[field];
            default: return BAD;
        }
    }

    public int maker(int maker, int what) {
        if (!now.hasMaker(maker)) {
            return UNKNOWN;
        }
        switch (what) {
            case 0: return now.weathers[maker];
            case 1: return now.stock[maker];
            case 2: return now.price[maker];
            case 3: return unitsInBest(now, maker);
            case 4: return paidTo(now, maker);
            default: return BAD;
        }
    }

    // ---- doings

    public int reprice(int maker, int v) {
        return doNow(PRICED, maker, v);
    }

    public int restock(int maker, int v) {
        return doNow(STOCKED, maker, v);
    }

    public int want(int field, int v) {
        return doNow(WANTED, field, v);
    }

    public int bear(int v) {
        return doNow(BORNE, 0, v);
    }

    public int undo() {
        if (doings.count <= 0) {
            return LATE;
        }
        doings.count--;
        int last = doings.count;
        now.change(doings.kind[last], doings.place[last], doings.was[last]);
        return doings.count;
    }

    private int doNow(int kind, int place, int v) {
        int refusal = now.refusal(kind, place, v);
        if (refusal != 0) {
            return refusal;
        }
        int was = now.change(kind, place, v);
        doings.add(kind, place, was);
        return was;
    }

    // ---- supplies

    public int best() {
        if (cheapest(now, now.allMakers()) == NONE) {
            return NONE;
        }
        return asFigures(search.by, now.fields);
    }

    public int cost(int supply) {
        if (!spell(supply, now.fields)) {
            return BAD;
        }
        search.stockUp(now, now.allMakers());
        int spent = 0;
        int smells = 0;
        for (int f = 0; f < now.fields; f++) {
            int by = figures[f];
            if (by == SECOND_HAND) {
                smells++;
                if (smells > now.patience || !now.couldBeSecondHand(f)) {
                    return NONE;
                }
            } else {
                if (!now.hasMaker(by) || !search.canServe(now, by, f)) {
                    return NONE;
                }
                search.left[by] -= now.units[f];
                spent += now.units[f] * now.price[by];
            }
        }
        return spent;
    }

    public int gain(int maker, int v) {
        int refusal = now.refusal(PRICED, maker, v);
        if (refusal != 0) {
            return refusal;
        }
        trial.become(now);
        trial.change(PRICED, maker, v);
        int paid = paidTo(trial, maker);
        if (paid == NONE) {
            return NONE;
        }
        return paid - unitsInBest(trial, maker) * now.price[maker];
    }

    public int ran(int what) {
        if (what < 0 || what > 2) {
            return BAD;
        }
        runYears();
        switch (what) {
            case 0: return run.firstSmell;
            case 1: return run.spent;
            default: return asFigures(trial.stock, trial.makers);
        }
    }

    public int least(int makers) {
        return now.hasLeague(makers) ? cheapest(now, makers) : BAD;
    }

    public int most(int makers) {
        return now.hasLeague(makers) ? mostServed(now, makers) : BAD;
    }

    public int holds(int shares) {
        if (!spell(shares, now.makers)) {
            return BAD;
        }
        int all = now.allMakers();
        if (sharesOf(all) != mostServed(now, all)) {
            return LATE;
        }
        for (int league = 1; league <= all; league++) {
            if (sharesOf(league) < mostServed(now, league)) {
                return league;
            }
        }
        return NONE;
    }

    public int judge(int n, long row) {
        if (n < 1 || n > MOST_JUDGED || !spell(row, n * FIGURES_OF_A_DOING)) {
            return BAD;
        }
        trial.become(now);
        for (int place = 0; place < n; place++) {
            if (!canBe(place * FIGURES_OF_A_DOING)) {
                return place;
            }
        }
        return NONE;
    }

    public int share(int maker, boolean upper) {
        if (!now.hasMaker(maker)) {
            return UNKNOWN;
        }
        int itself = 1 << maker;
        int more = 0;
        for (int ahead = 0; ahead <= now.allMakers(); ahead++) {
            if ((ahead & itself) == 0) {
                int before = Integer.bitCount(ahead);
                int behind = now.makers - 1 - before;
                int gained = mostServed(now, ahead | itself) - mostServed(now, ahead);
                more += ORDERS[before] * ORDERS[behind] * gained;
            }
        }
        return partOfFraction(more, ORDERS[now.makers], upper);
    }

    // ---- seen

    public int see(int field, int by, int was) {
        if (!now.hasField(field) || !(now.hasMaker(by) || by == SECOND_HAND)) {
            return UNKNOWN;
        }
        if (was != 0 && was != 1) {
            return BAD;
        }
        return seen.add(field, by, was == 1) ? seen.count : FULL;
    }

    public int unsee() {
        int had = seen.count;
        seen.count = 0;
        return had;
    }

    public int which(int what) {
        if (what != 0 && what != 1) {
            return BAD;
        }
        trial.become(now);
        int count = 0;
        int first = NONE;
        for (int m = 0; m < now.makers; m++) {
            for (int price = 0; price <= TOP_FIGURE; price++) {
                trial.price[m] = price;
                if (price != now.price[m] && allSeenIsSo(trial)) {
                    count++;
                    first = first == NONE ? 10 * m + price : first;
                }
            }
            trial.price[m] = now.price[m];
        }
        return what == 0 ? count : first;
    }

    // ---- chances

    public int gone(int x, boolean upper) {
        if (x < 0 || x > 10) {
            return BAD;
        }
        int above = 0;
        int below = 1;
        for (int m = 0; m < now.makers; m++) {
            below *= 10;
        }
        for (int league = 0; league <= now.allMakers(); league++) {
            if (cheapest(now, league) != NONE) {
                above += chanceOfLeft(league, x);
            }
        }
        return partOfFraction(above, below, upper);
    }

    public long seed(long v) {
        long was = theSeed;
        theSeed = v;
        return was;
    }

    public int drawn(int m) {
        if (m < 1 || m > MOST_DRAWS) {
            return BAD;
        }
        trial.become(now);
        int together = 0;
        for (int time = 0; time < m; time++) {
            for (int k = 0; k < trial.makers; k++) {
                theSeed = theSeed * STEP_FACTOR + STEP_ADDED;
                trial.price[k] = (int) ((theSeed >>> 33) % 10);
            }
            int spent = cheapest(trial, trial.allMakers());
            together += spent == NONE ? 0 : spent;
        }
        return together;
    }

    // ---- slots

    public int keep(int slot) {
        Tender room = roomOf(slot);
        if (room == null) {
            return UNKNOWN;
        }
        room.become(now);
        keptSlots |= 1 << slot;
        return now.makers;
    }

    public int again(int slot) {
        Tender room = roomOf(slot);
        if (room == null) {
            return UNKNOWN;
        }
        if ((keptSlots >> slot & 1) == 0) {
            return LATE;
        }
        now.become(room);
        doings.count = 0;
        return now.makers;
    }

    private Tender roomOf(int slot) {
        return slot >= 0 && slot < SLOTS ? kept[slot] : null;
    }

    // ---- what the calls share

    /** LEAST by some makers alone, or NONE; search.by is their BEST then. */
    private int cheapest(Tender t, int league) {
        search.stockUp(t, league);
        search.found = NONE;
        serveFrom(t, search, 0, 0, 0);
        return search.found;
    }

    /** Tries in the order of the figures, so of like supplies the least one is found first and stays. */
    private static void serveFrom(Tender t, Search s, int field, int smells, int spent) {
        if (s.found != NONE && spent >= s.found) {
            return;
        }
        if (field >= t.fields) {
            s.takeTried(t.fields, spent);
            return;
        }
        int units = t.units[field];
        for (int m = 0; m < t.makers; m++) {
            if (s.canServe(t, m, field)) {
                s.left[m] -= units;
                s.tried[field] = m;
                serveFrom(t, s, field + 1, smells, spent + units * t.price[m]);
                s.left[m] += units;
            }
        }
        if (smells < t.patience && t.couldBeSecondHand(field)) {
            s.tried[field] = SECOND_HAND;
            serveFrom(t, s, field + 1, smells + 1, spent);
        }
    }

    /** MOST of some makers. */
    private int mostServed(Tender t, int league) {
        search.stockUp(t, league);
        search.found = 0;
        countFrom(t, search, 0, 0, 0);
        return search.found;
    }

    private static void countFrom(Tender t, Search s, int field, int smells, int served) {
        // Not even all the fields that are left would make it more.
        if (served + t.fields - field <= s.found) {
            return;
        }
        if (field >= t.fields) {
            s.found = served;
            return;
        }
        int units = t.units[field];
        for (int m = 0; m < t.makers; m++) {
            if (s.canServe(t, m, field)) {
                s.left[m] -= units;
                s.tried[field] = m;
                countFrom(t, s, field + 1, smells, served + 1);
                s.left[m] += units;
            }
        }
        if (smells < t.patience && t.couldBeSecondHand(field) && s.tried[field - 1] != WITHOUT) {
            s.tried[field] = SECOND_HAND;
            countFrom(t, s, field + 1, smells + 1, served + 1);
        }
        s.tried[field] = WITHOUT;
        countFrom(t, s, field + 1, smells, served);
    }

    private int unitsInBest(Tender t, int maker) {
        return cheapest(t, t.allMakers()) == NONE ? NONE : search.unitsBy(t, maker);
    }

    private int paidTo(Tender t, int maker) {
        int all = t.allMakers();
        int with = cheapest(t, all);
        if (with == NONE) {
            return NONE;
        }
        int own = search.unitsBy(t, maker) * t.price[maker];
        int without = cheapest(t, all & ~(1 << maker));
        return without == NONE ? NONE : own + without - with;
    }

    /** Runs all years on the trial, whose stocks are then those that are left. */
    private void runYears() {
        trial.become(now);
        run.years = 0;
        run.spent = 0;
        run.firstSmell = NONE;
        // Without fields a supply costs no stock, and the years would have no end.
        int end = now.fields == 0 ? 0 : MOST_YEARS;
        for (int year = 0; year < end; year++) {
            int spent = cheapest(trial, trial.allMakers());
            if (spent == NONE) {
                return;
            }
            run.years++;
            run.spent += spent;
            if (run.firstSmell == NONE && search.smells(trial)) {
                run.firstSmell = year;
            }
            for (int m = 0; m < trial.makers; m++) {
                trial.stock[m] -= search.unitsBy(trial, m);
            }
        }
    }

    /** The spelt shares of a league, together. */
    private int sharesOf(int league) {
        int together = 0;
        for (int m = 0; m < now.makers; m++) {
            if ((league >> m & 1) == 1) {
                together += figures[m];
            }
        }
        return together;
    }

    /** Whether the doing that is spelt from a place on can be (and is then done) on the trial, or is so. */
    private boolean canBe(int from) {
        int kind = figures[from];
        int first = figures[from + 1];
        int second = figures[from + 2];
        int last = figures[from + 3];
        int all = trial.allMakers();
        switch (kind) {
            case PRICED:
            case STOCKED:
            case WANTED:
                return second == 0 && changesTrial(kind, first, last);
            case BORNE:
                return first == 0 && second == 0 && changesTrial(kind, first, last);
            case SERVED:
                return second == 0 && trial.hasField(first)
                        && cheapest(trial, all) != NONE && search.by[first] == last;
            case AFFORDED:
                return first == 0 && cheapest(trial, all) != NONE && search.found <= 10 * second + last;
            case REACHED:
                return first == 0 && second == 0 && mostServed(trial, all) == last;
            default:
                return false;
        }
    }

    private boolean changesTrial(int kind, int place, int v) {
        if (trial.refusal(kind, place, v) != 0) {
            return false;
        }
        trial.change(kind, place, v);
        return true;
    }

    private boolean allSeenIsSo(Tender t) {
        boolean supplied = cheapest(t, t.allMakers()) != NONE;
        for (int i = 0; i < seen.count; i++) {
            int field = seen.field[i];
            // A field or maker that is no more is served, or serves, by no supply.
            boolean served = supplied && t.hasField(field) && search.by[field] == seen.by[i];
            if (served != seen.was[i]) {
                return false;
            }
        }
        return true;
    }

    /** How likely just this league is left, in tenths multiplied, one for each maker. */
    private int chanceOfLeft(int league, int x) {
        int chance = 1;
        for (int m = 0; m < now.makers; m++) {
            chance *= (league >> m & 1) == 1 ? 10 - x : x;
        }
        return chance;
    }

    private static int partOfFraction(int above, int below, boolean upper) {
        int common = above;
        int rest = below;
        for (int step = 0; step < EUCLID_STEPS && rest != 0; step++) {
            int next = common % rest;
            common = rest;
            rest = next;
        }
        int part = upper ? above : below;
        return common > 0 ? part / common : part;
    }

    /** Whether a number has no more figures than so many; if so, they are laid out, the highest first. */
    private boolean spell(long number, int count) {
        if (number < 0 || count > figures.length) {
            return false;
        }
        long rest = number;
        for (int place = count - 1; place >= 0; place--) {
            figures[place] = (int) (rest % 10);
            rest /= 10;
        }
        return rest == 0;
    }

    private static int asFigures(int[] row, int count) {
        int number = 0;
        for (int place = 0; place < count && place < row.length; place++) {
            number = number * 10 + row[place];
        }
        return number;
    }

    /** Fields, makers and patience: what a slot keeps. */
    private static final class Tender {
        private int fields = 0;
        private int makers = 0;
        private int patience = 1;
        private final int[] weather = new int[MOST_FIELDS];
        private final int[] units = new int[MOST_FIELDS];
        private final int[] weathers = new int[MOST_MAKERS];
        private final int[] stock = new int[MOST_MAKERS];
        private final int[] price = new int[MOST_MAKERS];

        private void become(Tender other) {
            fields = other.fields;
            makers = other.makers;
            patience = other.patience;
            for (int f = 0; f < MOST_FIELDS; f++) {
                weather[f] = other.weather[f];
                units[f] = other.units[f];
            }
            for (int m = 0; m < MOST_MAKERS; m++) {
                weathers[m] = other.weathers[m];
                stock[m] = other.stock[m];
                price[m] = other.price[m];
            }
        }

        private boolean hasField(int f) {
            return f >= 0 && f < fields;
        }

        private boolean hasMaker(int m) {
            return m >= 0 && m < makers;
        }

        private boolean hasLeague(int league) {
            return league >= 0 && league <= allMakers();
        }

        private int allMakers() {
            return (1 << makers) - 1;
        }

        private boolean makes(int m, int f) {
            return (weathers[m] >> weather[f] & 1) == 1;
        }

        private boolean couldBeSecondHand(int f) {
            return f > 0 && weather[f - 1] == weather[f] && units[f - 1] >= units[f];
        }

        /** Why a change can not be; 0 if it can. */
        private int refusal(int kind, int place, int v) {
            switch (kind) {
                case PRICED:
                case STOCKED:
                    return !hasMaker(place) ? UNKNOWN : v < 0 || v > TOP_FIGURE ? BAD : 0;
                case WANTED:
                    return !hasField(place) ? UNKNOWN : v < 1 || v > MOST_UNITS ? BAD : 0;
                default:
                    return v < 0 || v > MOST_PATIENCE ? BAD : 0;
            }
        }

        /** Only behind refusal, which has looked at the place: what it was. */
        private int change(int kind, int place, int v) {
            int was;
            switch (kind) {
                case PRICED:
                    was = price[place];
                    price[place] = v;
                    return was;
                case STOCKED:
                    was = stock[place];
                    stock[place] = v;
                    return was;
                case WANTED:
                    was = units[place];
                    units[place] = v;
                    return was;
                default:
                    was = patience;
                    patience = v;
                    return was;
            }
        }
    }

    /** The letters, and what they are read as. */
    private static final class Text {
        // What may come next.
        private static final int PART = 0;
        private static final int FIELD_WEATHER = 1;
        private static final int FIELD_UNITS = 2;
        private static final int MAKER_WEATHER_OR_STOCK = 3;
        private static final int MAKER_PRICE = 4;
        private static final int NOTHING = 5;

        private int length = 0;
        private final int[] letters = new int[MOST_LETTERS];

        private boolean append(int letter) {
            if (length >= MOST_LETTERS) {
                return false;
            }
            letters[length] = letter;
            length++;
            return true;
        }

        /** FAULT; if it is NONE, the tender has the fields and makers of the text. */
        private int readInto(Tender t) {
            t.fields = 0;
            t.makers = 0;
            int next = PART;
            for (int place = 0; place < length; place++) {
                next = behind(next, letters[place], t);
                if (next == NOTHING) {
                    return place;
                }
            }
            return next == PART ? NONE : length;
        }

        private static int behind(int next, int letter, Tender t) {
            switch (next) {
                case PART: return behindHead(letter, t);
                case FIELD_WEATHER: return behindFieldWeather(letter, t);
                case FIELD_UNITS: return behindFieldUnits(letter, t);
                case MAKER_WEATHER_OR_STOCK: return behindMakerWeatherOrStock(letter, t);
                case MAKER_PRICE: return behindMakerPrice(letter, t);
                default: return NOTHING;
            }
        }

        // Here the room is looked at, so the other letters of a part find it.
        private static int behindHead(int letter, Tender t) {
            if (letter == 'F' && t.fields < MOST_FIELDS) {
                return FIELD_WEATHER;
            }
            if (letter == 'M' && t.makers < MOST_MAKERS) {
                t.weathers[t.makers] = 0;
                return MAKER_WEATHER_OR_STOCK;
            }
            return NOTHING;
        }

        private static int behindFieldWeather(int letter, Tender t) {
            int weather = weatherOf(letter);
            if (weather < 0) {
                return NOTHING;
            }
            t.weather[t.fields] = weather;
            return FIELD_UNITS;
        }

        private static int behindFieldUnits(int letter, Tender t) {
            int units = letter - '0';
            if (units < 1 || units > MOST_UNITS) {
                return NOTHING;
            }
            t.units[t.fields] = units;
            t.fields++;
            return PART;
        }

        private static int behindMakerWeatherOrStock(int letter, Tender t) {
            int made = t.weathers[t.makers];
            int weather = weatherOf(letter);
            // A bit above all of those before it is in the row, and is there once.
            if (weather >= 0 && 1 << weather > made) {
                t.weathers[t.makers] = made | 1 << weather;
                return MAKER_WEATHER_OR_STOCK;
            }
            if (made == 0 || !isFigure(letter)) {
                return NOTHING;
            }
            t.stock[t.makers] = letter - '0';
            return MAKER_PRICE;
        }

        private static int behindMakerPrice(int letter, Tender t) {
            if (!isFigure(letter)) {
                return NOTHING;
            }
            t.price[t.makers] = letter - '0';
            t.makers++;
            return PART;
        }

        private static boolean isFigure(int letter) {
            return letter >= '0' && letter <= '9';
        }

        private static int weatherOf(int letter) {
            switch (letter) {
                case 'r': return 0;
                case 'w': return 1;
                case 's': return 2;
                default: return -1;
            }
        }
    }

    /** The rows of a search through supplies, made once for all of them. */
    private static final class Search {
        // LEAST or MOST, as far as it has been found.
        private int found = NONE;
        private final int[] by = new int[MOST_FIELDS];
        private final int[] tried = new int[MOST_FIELDS];
        private final int[] left = new int[MOST_MAKERS];

        /** A maker that is not there is as one without stock: every field wants a unit at least. */
        private void stockUp(Tender t, int league) {
            for (int m = 0; m < MOST_MAKERS; m++) {
                left[m] = m < t.makers && (league >> m & 1) == 1 ? t.stock[m] : 0;
            }
        }

        private boolean canServe(Tender t, int m, int f) {
            return t.makes(m, f) && left[m] >= t.units[f];
        }

        private void takeTried(int count, int spent) {
            found = spent;
            for (int f = 0; f < count; f++) {
                by[f] = tried[f];
            }
        }

        private int unitsBy(Tender t, int m) {
            int together = 0;
            for (int f = 0; f < t.fields; f++) {
                together += by[f] == m ? t.units[f] : 0;
            }
            return together;
        }

        private boolean smells(Tender t) {
            for (int f = 0; f < t.fields; f++) {
                if (by[f] == SECOND_HAND) {
                    return true;
                }
            }
            return false;
        }
    }

    /** What came of the years. */
    private static final class Run {
        private int years = 0;
        private int spent = 0;
        private int firstSmell = NONE;
    }

    /** What was done, and what was there before it. */
    private static final class Doings {
        private int count = 0;
        private final int[] kind = new int[MOST_DOINGS];
        private final int[] place = new int[MOST_DOINGS];
        private final int[] was = new int[MOST_DOINGS];

        private void add(int newKind, int newPlace, int newWas) {
            if (count >= MOST_DOINGS) {
                forgetFirst();
            }
            kind[count] = newKind;
            place[count] = newPlace;
            was[count] = newWas;
            count++;
        }

        private void forgetFirst() {
            for (int i = 1; i < MOST_DOINGS; i++) {
                kind[i - 1] = kind[i];
                place[i - 1] = place[i];
                was[i - 1] = was[i];
            }
            count = MOST_DOINGS - 1;
        }
    }

    /** What was seen of the fields. */
    private static final class Seen {
        private int count = 0;
        private final int[] field = new int[MOST_SEEN];
        private final int[] by = new int[MOST_SEEN];
        private final boolean[] was = new boolean[MOST_SEEN];

        private boolean add(int newField, int newBy, boolean newWas) {
            if (count >= MOST_SEEN) {
                return false;
            }
            field[count] = newField;
            by[count] = newBy;
            was[count] = newWas;
            count++;
            return true;
        }
    }
}
