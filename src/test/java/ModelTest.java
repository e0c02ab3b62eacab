import java.math.BigInteger;
import java.util.ArrayDeque;
import java.util.ArrayList;
import java.util.Collections;
import java.util.Deque;
import java.util.List;
import java.util.Random;
import java.util.regex.Matcher;
import java.util.regex.Pattern;

/**
 * Random runs of calls, each answered by the program and by a model that was written for plainness alone:
 * it goes through all rows of figures instead of searching, through all orders of the makers, keeps whole
 * copies for undo, and reads the text by a regular expression.
 */
public final class ModelTest {
    private static final int UNKNOWN = -1, BAD = -2, LATE = -3, FULL = -4, NONE = -9;
    private static final int RUNS = 1000;
    private static final int CALLS = 120;
    private static final String[][] ROWS = {spelt(0), spelt(1), spelt(2), spelt(3), spelt(4)};

    public static void main(String[] args) {
        long compared = 0;
        for (int run = 0; run < RUNS; run++) {
            Driver driver = new Driver(run);
            if (!driver.goes(CALLS)) {
                System.out.println("run " + run + ":");
                for (String line : driver.told) {
                    System.out.println("  " + line);
                }
                System.exit(1);
            }
            compared += driver.told.size();
        }
        System.out.println(compared + " answers are as the model's");
        if (compared == 0) {
            System.exit(1);
        }
    }

    /** All rows of so many figures. */
    private static String[] spelt(int count) {
        String[] rows = new String[(int) Math.pow(10, count)];
        for (int i = 0; i < rows.length; i++) {
            rows[i] = count == 0 ? "" : String.format("%0" + count + "d", i);
        }
        return rows;
    }

    private static final class Driver {
        final Random random;
        final SkyTenders program = new SkyTenders();
        final Model model = new Model();
        final List<String> told = new ArrayList<>();
        boolean same = true;

        Driver(int seed) {
            random = new Random(seed);
        }

        boolean goes(int calls) {
            for (int i = 0; i < calls && same; i++) {
                call();
            }
            return same;
        }

        void due(String call, long got, long want) {
            told.add(call + " answered " + got + (got == want ? "" : ", the model " + want));
            same = same && got == want;
        }

        /** Mostly a number that is fine, at times one beside it. */
        int near(int low, int high) {
            return random.nextInt(12) == 0 ? low - 1 + random.nextInt(high - low + 3)
                    : low + random.nextInt(high - low + 1);
        }

        void call() {
            int kind = random.nextInt(32);
            int m = near(0, Math.max(0, model.state.makers.size() - 1));
            int f = near(0, Math.max(0, model.state.fields.size() - 1));
            boolean upper = random.nextBoolean();
            switch (kind) {
                case 0, 1 -> tell();
                case 2 -> due("fault()", program.fault(), model.fault());
                case 3, 4 -> {
                    int what = near(0, 8);
                    due("about(" + what + ")", program.about(what), model.about(what));
                }
                case 5 -> {
                    int what = near(0, 2);
                    due("field(" + f + ", " + what + ")", program.field(f, what), model.field(f, what));
                }
                case 6, 7 -> {
                    int what = near(0, 4);
                    due("maker(" + m + ", " + what + ")", program.maker(m, what), model.maker(m, what));
                }
                case 8, 9, 10, 11, 12 -> doing(m, f, kind);
                case 13, 14 -> due("undo()", program.undo(), model.undo());
                case 15 -> due("best()", program.best(), model.best());
                case 16, 17, 18, 19, 20, 21 -> supply(m, kind);
                case 22, 23 -> due("share(" + m + ", " + upper + ")", program.share(m, upper), model.share(m, upper));
                case 24, 25, 26 -> seen(f, m, kind);
                case 27, 28 -> chance(upper);
                case 29 -> {
                    int slot = near(0, 1);
                    due("keep(" + slot + ")", program.keep(slot), model.keep(slot));
                }
                case 30 -> {
                    int slot = near(0, 1);
                    due("again(" + slot + ")", program.again(slot), model.again(slot));
                }
                default -> judge();
            }
        }

        void tell() {
            if (random.nextInt(4) != 0) {
                due("wipe()", program.wipe(), model.wipe());
            }
            for (char letter : text().toCharArray()) {
                due("write(" + (int) letter + ")", program.write(letter), model.write(letter));
            }
            if (random.nextInt(10) == 0) {
                int letter = near(0, 255);
                due("write(" + letter + ")", program.write(letter), model.write(letter));
            }
            due("fault()", program.fault(), model.fault());
            due("tender()", program.tender(), model.tender());
        }

        String text() {
            StringBuilder text = new StringBuilder();
            List<Character> parts = new ArrayList<>();
            int fields = random.nextInt(random.nextInt(10) == 0 ? 6 : 5);
            int makers = random.nextInt(random.nextInt(10) == 0 ? 6 : 5);
            parts.addAll(Collections.nCopies(fields, 'F'));
            parts.addAll(Collections.nCopies(makers, 'M'));
            if (random.nextBoolean()) {
                Collections.shuffle(parts, random);
            }
            int weathers = 1 + random.nextInt(3);
            for (char part : parts) {
                text.append(part);
                if (part == 'F') {
                    text.append("rws".charAt(random.nextInt(weathers))).append(1 + random.nextInt(5));
                } else {
                    int made = 1 + random.nextInt(7);
                    for (int w = 0; w < 3; w++) {
                        if ((made >> w & 1) == 1) {
                            text.append("rws".charAt(w));
                        }
                    }
                    text.append(random.nextInt(10)).append(random.nextInt(10));
                }
            }
            if (random.nextInt(5) == 0 && text.length() > 0) {
                int place = random.nextInt(text.length());
                char letter = "FMrws0123456789x".charAt(random.nextInt(16));
                if (random.nextBoolean()) {
                    text.setCharAt(place, letter);
                } else if (random.nextBoolean()) {
                    text.deleteCharAt(place);
                } else {
                    text.insert(place, letter);
                }
            }
            return text.toString();
        }

        void doing(int m, int f, int kind) {
            int v = near(0, 9);
            switch (kind) {
                case 8, 9 -> due("reprice(" + m + ", " + v + ")", program.reprice(m, v), model.reprice(m, v));
                case 10 -> due("restock(" + m + ", " + v + ")", program.restock(m, v), model.restock(m, v));
                case 11 -> {
                    int units = near(1, 5);
                    due("want(" + f + ", " + units + ")", program.want(f, units), model.want(f, units));
                }
                default -> {
                    int patience = near(0, 4);
                    due("bear(" + patience + ")", program.bear(patience), model.bear(patience));
                }
            }
        }

        void supply(int m, int kind) {
            int fields = model.state.fields.size();
            int makers = model.state.makers.size();
            int league = near(0, (1 << makers) - 1);
            switch (kind) {
                case 16 -> {
                    int supply = 0;
                    for (int i = 0; i < fields; i++) {
                        int by = random.nextInt(makers + 1);
                        supply = supply * 10 + (by == makers && random.nextInt(20) != 0 ? 9 : by);
                    }
                    supply = random.nextInt(20) == 0 ? near(0, 10000) : supply;
                    due("cost(" + supply + ")", program.cost(supply), model.cost(supply));
                }
                case 17 -> {
                    int v = near(0, 9);
                    due("gain(" + m + ", " + v + ")", program.gain(m, v), model.gain(m, v));
                }
                case 18 -> {
                    int what = near(0, 2);
                    due("ran(" + what + ")", program.ran(what), model.ran(what));
                }
                case 19 -> due("least(" + league + ")", program.least(league), model.least(league));
                case 20 -> due("most(" + league + ")", program.most(league), model.most(league));
                default -> {
                    int shares = sharesThatAddUp(makers);
                    due("holds(" + shares + ")", program.holds(shares), model.holds(shares));
                }
            }
        }

        /** Shares at random are LATE nearly always; these add up, but for one in ten. */
        int sharesThatAddUp(int makers) {
            if (makers == 0 || random.nextInt(10) == 0) {
                return near(0, 9999);
            }
            int[] shares = new int[makers];
            for (int left = model.about(4); left > 0; left--) {
                shares[random.nextInt(makers)]++;
            }
            int told = 0;
            for (int share : shares) {
                told = told * 10 + share;
            }
            return told;
        }

        void seen(int f, int m, int kind) {
            if (kind == 24) {
                int by = random.nextInt(4) == 0 ? 9 : m;
                int was = near(0, 1);
                due("see(" + f + ", " + by + ", " + was + ")", program.see(f, by, was), model.see(f, by, was));
            } else if (kind == 25 && random.nextInt(3) == 0) {
                due("unsee()", program.unsee(), model.unsee());
            } else {
                int what = near(0, 1);
                due("which(" + what + ")", program.which(what), model.which(what));
            }
        }

        void chance(boolean upper) {
            switch (random.nextInt(3)) {
                case 0 -> {
                    int x = near(0, 10);
                    due("gone(" + x + ", " + upper + ")", program.gone(x, upper), model.gone(x, upper));
                }
                case 1 -> {
                    long v = random.nextBoolean() ? random.nextLong() : random.nextInt(20);
                    due("seed(" + v + ")", program.seed(v), model.seed(v));
                }
                default -> {
                    int m = near(1, 20);
                    due("drawn(" + m + ")", program.drawn(m), model.drawn(m));
                }
            }
        }

        void judge() {
            int n = near(1, 4);
            long row = 0;
            for (int i = 0; i < n; i++) {
                row = row * 10000 + toldDoing();
            }
            if (random.nextInt(20) == 0) {
                row = random.nextLong() >> random.nextInt(60);
            }
            due("judge(" + n + ", " + row + ")", program.judge(n, row), model.judge(n, row));
        }

        /** Likely one that can be, so that the later ones are looked at, too. */
        int toldDoing() {
            int makers = Math.max(1, model.state.makers.size());
            int fields = Math.max(1, model.state.fields.size());
            return switch (random.nextInt(9)) {
                case 0 -> 1000 + 100 * random.nextInt(makers) + random.nextInt(10);
                case 1 -> 2000 + 100 * random.nextInt(makers) + random.nextInt(10);
                case 2 -> 3000 + 100 * random.nextInt(fields) + 1 + random.nextInt(5);
                case 3 -> 4000 + random.nextInt(5);
                case 4, 5 -> 5000 + 100 * random.nextInt(fields)
                        + (random.nextInt(3) == 0 ? 9 : random.nextInt(makers));
                case 6 -> 6000 + random.nextInt(100);
                case 7 -> 7000 + random.nextInt(fields + 1);
                default -> random.nextInt(10000);
            };
        }
    }

    private record Field(int weather, int units) { }

    private record Maker(String weathers, int stock, int price) { }

    private record State(List<Field> fields, List<Maker> makers, int patience) {
        State withMaker(int m, Maker maker) {
            List<Maker> changed = new ArrayList<>(makers);
            changed.set(m, maker);
            return new State(fields, changed, patience);
        }

        State priced(int m, int v) {
            return withMaker(m, new Maker(makers.get(m).weathers, makers.get(m).stock, v));
        }

        State stocked(int m, int v) {
            return withMaker(m, new Maker(makers.get(m).weathers, v, makers.get(m).price));
        }

        State wanted(int f, int v) {
            List<Field> changed = new ArrayList<>(fields);
            changed.set(f, new Field(fields.get(f).weather, v));
            return new State(changed, makers, patience);
        }

        State borne(int v) {
            return new State(fields, makers, v);
        }

        /** The others stay by their numbers, but make nothing. */
        State by(int league) {
            State left = this;
            for (int m = 0; m < makers.size(); m++) {
                if ((league >> m & 1) == 0) {
                    left = left.withMaker(m, new Maker("", 0, 0));
                }
            }
            return left;
        }

        int all() {
            return (1 << makers.size()) - 1;
        }

        String spelt(int figures) {
            return ROWS[fields.size()][figures];
        }

        int rows() {
            return ROWS[fields.size()].length;
        }

        /** By a row of signs: a maker's figure, 9 second-hand, - without. */
        boolean allowed(String row) {
            int[] used = new int[10];
            int smells = 0;
            for (int f = 0; f < row.length(); f++) {
                char sign = row.charAt(f);
                Field field = fields.get(f);
                if (sign == '-') {
                    continue;
                }
                if (sign == '9') {
                    smells++;
                    if (f == 0 || row.charAt(f - 1) == '-' || fields.get(f - 1).weather != field.weather
                            || fields.get(f - 1).units < field.units) {
                        return false;
                    }
                    continue;
                }
                int m = sign - '0';
                if (m >= makers.size() || makers.get(m).weathers.indexOf("rws".charAt(field.weather)) < 0) {
                    return false;
                }
                used[m] += field.units;
            }
            for (int m = 0; m < makers.size(); m++) {
                if (used[m] > makers.get(m).stock) {
                    return false;
                }
            }
            return smells <= patience;
        }

        int costOf(String row) {
            int cost = 0;
            for (int f = 0; f < row.length(); f++) {
                if (row.charAt(f) != '9') {
                    cost += fields.get(f).units * makers.get(row.charAt(f) - '0').price;
                }
            }
            return cost;
        }

        String best() {
            String best = null;
            for (int figures = 0; figures < rows(); figures++) {
                String row = spelt(figures);
                if (allowed(row) && (best == null || costOf(row) < costOf(best))) {
                    best = row;
                }
            }
            return best;
        }

        int least() {
            String best = best();
            return best == null ? NONE : costOf(best);
        }

        /** 8 is no maker's figure, and stands for none here. */
        int most() {
            int most = 0;
            for (int figures = 0; figures < rows(); figures++) {
                String row = spelt(figures).replace('8', '-');
                int served = row.replace("-", "").length();
                if (served > most && allowed(row)) {
                    most = served;
                }
            }
            return most;
        }

        int unitsOf(String row, int m) {
            int units = 0;
            for (int f = 0; f < row.length(); f++) {
                units += row.charAt(f) - '0' == m ? fields.get(f).units : 0;
            }
            return units;
        }

        int paid(int m) {
            String best = best();
            int without = by(all() & ~(1 << m)).least();
            if (best == null || without == NONE) {
                return NONE;
            }
            return unitsOf(best, m) * makers.get(m).price + without - costOf(best);
        }
    }

    private record Sight(int field, int by, int was) { }

    private static final class Model {
        State state = new State(List.of(), List.of(), 1);
        final Deque<State> before = new ArrayDeque<>();
        final List<Sight> sights = new ArrayList<>();
        final State[] slots = new State[2];
        String text = "";
        BigInteger seed = BigInteger.ZERO;

        static final Pattern TENDER =
                Pattern.compile("(?:F[rws][1-5]|M(?:rw?s?|ws?|s)[0-9][0-9])*");

        static boolean tooMany(String text) {
            return text.chars().filter(c -> c == 'F').count() > 4 || text.chars().filter(c -> c == 'M').count() > 4;
        }

        static boolean goesOn(String text) {
            Matcher matcher = TENDER.matcher(text);
            return (matcher.matches() || matcher.hitEnd()) && !tooMany(text);
        }

        int write(int letter) {
            if (letter < 0 || letter > 255) {
                return BAD;
            }
            if (text.length() == 60) {
                return FULL;
            }
            text += (char) letter;
            return text.length();
        }

        int wipe() {
            int was = text.length();
            text = "";
            return was;
        }

        int fault() {
            for (int n = 1; n <= text.length(); n++) {
                if (!goesOn(text.substring(0, n))) {
                    return n - 1;
                }
            }
            return TENDER.matcher(text).matches() ? NONE : text.length();
        }

        int tender() {
            if (fault() != NONE) {
                return LATE;
            }
            List<Field> fields = new ArrayList<>();
            List<Maker> makers = new ArrayList<>();
            Matcher parts = Pattern.compile("F(.)(.)|M([rws]+)(.)(.)").matcher(text);
            while (parts.find()) {
                if (parts.group(1) != null) {
                    fields.add(new Field("rws".indexOf(parts.group(1)), Integer.parseInt(parts.group(2))));
                } else {
                    makers.add(new Maker(parts.group(3), Integer.parseInt(parts.group(4)),
                            Integer.parseInt(parts.group(5))));
                }
            }
            state = new State(fields, makers, state.patience);
            before.clear();
            slots[0] = null;
            slots[1] = null;
            return makers.size();
        }

        boolean noField(int f) {
            return f < 0 || f >= state.fields.size();
        }

        boolean noMaker(int m) {
            return m < 0 || m >= state.makers.size();
        }

        int about(int what) {
            return switch (what) {
                case 0 -> state.fields.size();
                case 1 -> state.makers.size();
                case 2 -> state.patience;
                case 3 -> state.least();
                case 4 -> state.most();
                case 5 -> run().years;
                case 6 -> before.size();
                case 7 -> sights.size();
                case 8 -> text.length();
                default -> BAD;
            };
        }

        int field(int f, int what) {
            if (noField(f)) {
                return UNKNOWN;
            }
            String best = state.best();
            return switch (what) {
                case 0 -> state.fields.get(f).weather;
                case 1 -> state.fields.get(f).units;
                case 2 -> best == null ? NONE : best.charAt(f) - '0';
                default -> BAD;
            };
        }

        int maker(int m, int what) {
            if (noMaker(m)) {
                return UNKNOWN;
            }
            Maker maker = state.makers.get(m);
            String best = state.best();
            int bits = 0;
            for (char letter : maker.weathers.toCharArray()) {
                bits += letter == 'r' ? 1 : letter == 'w' ? 2 : 4;
            }
            return switch (what) {
                case 0 -> bits;
                case 1 -> maker.stock;
                case 2 -> maker.price;
                case 3 -> best == null ? NONE : state.unitsOf(best, m);
                case 4 -> state.paid(m);
                default -> BAD;
            };
        }

        void become(State next) {
            before.addLast(state);
            if (before.size() > 14) {
                before.removeFirst();
            }
            state = next;
        }

        int reprice(int m, int v) {
            if (noMaker(m)) {
                return UNKNOWN;
            }
            if (v < 0 || v > 9) {
                return BAD;
            }
            int was = state.makers.get(m).price;
            become(state.priced(m, v));
            return was;
        }

        int restock(int m, int v) {
            if (noMaker(m)) {
                return UNKNOWN;
            }
            if (v < 0 || v > 9) {
                return BAD;
            }
            int was = state.makers.get(m).stock;
            become(state.stocked(m, v));
            return was;
        }

        int want(int f, int v) {
            if (noField(f)) {
                return UNKNOWN;
            }
            if (v < 1 || v > 5) {
                return BAD;
            }
            int was = state.fields.get(f).units;
            become(state.wanted(f, v));
            return was;
        }

        int bear(int v) {
            if (v < 0 || v > 4) {
                return BAD;
            }
            int was = state.patience;
            become(state.borne(v));
            return was;
        }

        int undo() {
            if (before.isEmpty()) {
                return LATE;
            }
            state = before.removeLast();
            return before.size();
        }

        int best() {
            String best = state.best();
            return best == null ? NONE : best.isEmpty() ? 0 : Integer.parseInt(best);
        }

        int cost(int supply) {
            if (supply < 0 || supply >= state.rows()) {
                return BAD;
            }
            String row = state.spelt(supply);
            return state.allowed(row) ? state.costOf(row) : NONE;
        }

        int gain(int m, int v) {
            if (noMaker(m)) {
                return UNKNOWN;
            }
            if (v < 0 || v > 9) {
                return BAD;
            }
            State then = state.priced(m, v);
            int paid = then.paid(m);
            return paid == NONE ? NONE : paid - then.unitsOf(then.best(), m) * state.makers.get(m).price;
        }

        private record Ran(int years, int firstSmell, int cost, State left) { }

        Ran run() {
            State left = state;
            int years = 0;
            int cost = 0;
            int firstSmell = NONE;
            String best = left.fields.isEmpty() ? null : left.best();
            while (best != null) {
                cost += left.costOf(best);
                if (firstSmell == NONE && best.indexOf('9') >= 0) {
                    firstSmell = years;
                }
                years++;
                State next = left;
                for (int m = 0; m < left.makers.size(); m++) {
                    next = next.stocked(m, left.makers.get(m).stock - left.unitsOf(best, m));
                }
                left = next;
                best = left.best();
            }
            return new Ran(years, firstSmell, cost, left);
        }

        int ran(int what) {
            Ran ran = run();
            StringBuilder stocks = new StringBuilder("0");
            for (Maker maker : ran.left.makers) {
                stocks.append(maker.stock);
            }
            return switch (what) {
                case 0 -> ran.firstSmell;
                case 1 -> ran.cost;
                case 2 -> Integer.parseInt(stocks.toString());
                default -> BAD;
            };
        }

        int least(int league) {
            return league < 0 || league > state.all() ? BAD : state.by(league).least();
        }

        int most(int league) {
            return league < 0 || league > state.all() ? BAD : state.by(league).most();
        }

        int holds(int shares) {
            int makers = state.makers.size();
            if (shares < 0 || shares >= Math.pow(10, makers)) {
                return BAD;
            }
            String row = makers == 0 ? "" : String.format("%0" + makers + "d", shares);
            if (together(row, state.all()) != state.most()) {
                return LATE;
            }
            for (int league = 0; league <= state.all(); league++) {
                if (together(row, league) < state.by(league).most()) {
                    return league;
                }
            }
            return NONE;
        }

        static int together(String row, int league) {
            int sum = 0;
            for (int m = 0; m < row.length(); m++) {
                sum += (league >> m & 1) * (row.charAt(m) - '0');
            }
            return sum;
        }

        int judge(int n, long row) {
            if (n < 1 || n > 4 || row < 0 || String.valueOf(row).length() > 4 * n) {
                return BAD;
            }
            String told = String.format("%0" + 4 * n + "d", row);
            State was = state;
            int answer = NONE;
            for (int place = 0; place < n && answer == NONE; place++) {
                State next = judged(told.substring(4 * place, 4 * place + 4));
                if (next == null) {
                    answer = place;
                } else {
                    state = next;
                }
            }
            state = was;
            return answer;
        }

        /** The state behind a told doing, or null if it can not be. */
        State judged(String told) {
            int a = told.charAt(1) - '0';
            int v = told.charAt(3) - '0';
            if (told.matches("[12].0.")) {
                return noMaker(a) ? null : told.charAt(0) == '1' ? state.priced(a, v) : state.stocked(a, v);
            }
            if (told.matches("3.0[1-5]")) {
                return noField(a) ? null : state.wanted(a, v);
            }
            if (told.matches("400[0-4]")) {
                return state.borne(v);
            }
            if (told.matches("5.0.")) {
                String best = state.best();
                return noField(a) || best == null || best.charAt(a) - '0' != v ? null : state;
            }
            if (told.matches("60..")) {
                int least = state.least();
                return least == NONE || least > Integer.parseInt(told.substring(2)) ? null : state;
            }
            if (told.matches("700.")) {
                return state.most() == v ? state : null;
            }
            return null;
        }

        int told(BigInteger above, BigInteger below, boolean upper) {
            BigInteger common = above.gcd(below);
            return (upper ? above : below).divide(common).intValue();
        }

        int share(int m, boolean upper) {
            if (noMaker(m)) {
                return UNKNOWN;
            }
            List<List<Integer>> orders = new ArrayList<>();
            orders(new ArrayList<>(), orders);
            int[] most = new int[state.all() + 1];
            for (int league = 0; league <= state.all(); league++) {
                most[league] = state.by(league).most();
            }
            int sum = 0;
            for (List<Integer> order : orders) {
                int come = 0;
                for (int next : order) {
                    int with = come | 1 << next;
                    sum += next == m ? most[with] - most[come] : 0;
                    come = with;
                }
            }
            return told(BigInteger.valueOf(sum), BigInteger.valueOf(orders.size()), upper);
        }

        void orders(List<Integer> come, List<List<Integer>> all) {
            if (come.size() == state.makers.size()) {
                all.add(new ArrayList<>(come));
            }
            for (int m = 0; m < state.makers.size(); m++) {
                if (!come.contains(m)) {
                    come.add(m);
                    orders(come, all);
                    come.remove(come.size() - 1);
                }
            }
        }

        int see(int f, int by, int was) {
            if (noField(f) || noMaker(by) && by != 9) {
                return UNKNOWN;
            }
            if (was < 0 || was > 1) {
                return BAD;
            }
            if (sights.size() == 6) {
                return FULL;
            }
            sights.add(new Sight(f, by, was));
            return sights.size();
        }

        int unsee() {
            int had = sights.size();
            sights.clear();
            return had;
        }

        int which(int what) {
            List<Integer> fit = new ArrayList<>();
            for (int number = 0; number < 10 * state.makers.size(); number++) {
                if (state.makers.get(number / 10).price != number % 10 && fits(number / 10, number % 10)) {
                    fit.add(number);
                }
            }
            return what == 0 ? fit.size() : what != 1 ? BAD : fit.isEmpty() ? NONE : fit.get(0);
        }

        boolean fits(int m, int price) {
            String best = state.priced(m, price).best();
            for (Sight sight : sights) {
                int was = best != null && sight.field < best.length()
                        && best.charAt(sight.field) - '0' == sight.by ? 1 : 0;
                if (was != sight.was) {
                    return false;
                }
            }
            return true;
        }

        int gone(int x, boolean upper) {
            if (x < 0 || x > 10) {
                return BAD;
            }
            // Ten lots for each maker, of which x make it go.
            BigInteger above = BigInteger.ZERO;
            int makers = state.makers.size();
            for (int league = 0; league <= state.all(); league++) {
                if (state.by(league).best() != null) {
                    int left = Integer.bitCount(league);
                    above = above.add(BigInteger.valueOf(10 - x).pow(left)
                            .multiply(BigInteger.valueOf(x).pow(makers - left)));
                }
            }
            return told(above, BigInteger.TEN.pow(makers), upper);
        }

        long seed(long v) {
            long was = seed.longValue();
            seed = BigInteger.valueOf(v);
            return was;
        }

        int drawn(int times) {
            if (times < 1 || times > 20) {
                return BAD;
            }
            BigInteger all = BigInteger.ONE.shiftLeft(64);
            int sum = 0;
            for (int i = 0; i < times; i++) {
                State then = state;
                for (int m = 0; m < state.makers.size(); m++) {
                    seed = seed.multiply(new BigInteger("6364136223846793005"))
                            .add(new BigInteger("1442695040888963407")).mod(all);
                    then = then.priced(m, seed.shiftRight(33).mod(BigInteger.TEN).intValue());
                }
                sum += Math.max(0, then.least());
            }
            return sum;
        }

        int keep(int slot) {
            if (slot < 0 || slot > 1) {
                return UNKNOWN;
            }
            slots[slot] = state;
            return state.makers.size();
        }

        int again(int slot) {
            if (slot < 0 || slot > 1) {
                return UNKNOWN;
            }
            if (slots[slot] == null) {
                return LATE;
            }
            state = slots[slot];
            before.clear();
            return state.makers.size();
        }
    }
}
