import java.math.BigInteger;

/** Boundaries of parts 3 and 4 of the terms: what is seen, chances, the seed, slots; refusals and fractions. */
final class ChanceBoundaries extends Sentences {
    private static final BigInteger FACTOR = new BigInteger("6364136223846793005");
    private static final BigInteger ADDED = new BigInteger("1442695040888963407");
    private static final BigInteger ALL = BigInteger.ONE.shiftLeft(64);

    static void all() {
        seenOrNot();
        seenWithoutSupply();
        sixSights();
        otherPricesAlone();
        noPriceFits();
        seenOfWhatIsNoMore();
        tenths();
        timesDrawn();
        seedAtFirst();
        wrapping();
        upperBits();
        drawnWithoutSupply();
        nothingButTheSeed();
        slots();
        refusals();
        constants();
        toldFirst();
        refusedChangesNothing();
        fractions();
    }

    private static void seenOrNot() {
        says(TERMS, "SEEN: that BEST served a FIELD by b (a MAKER; 9: SECOND-HAND) (1), or did not (0;");
        // Maker 1 serves if 0 had 4 .. 9, or it had 0 itself: 7 of the 18 other prices.
        int[][] fits = {{18 - 7, 7}, {7, 18 - 7}};
        for (int by = 0; by <= 1; by++) {
            for (int was = 0; was <= 1; was++) {
                SkyTenders x = told("Fr1Mr91Mr93");
                x.see(0, by, was);
                due(x.which(0), fits[by][1 - was]);
            }
        }
        SkyTenders y = told("Fr1Fr1Mr91");
        y.see(1, 9, 1);
        due(y.which(0), 8);
        SkyTenders z = told("Fr1Fr1Mr91");
        z.see(1, 9, 0);
        due(z.which(0), 1);
        due(z.which(1), 0);
        // Field 0 is never second-hand.
        SkyTenders first = told("Fr1Fr1Mr91");
        first.see(0, 9, 0);
        due(first.which(0), 9);
        first.see(0, 9, 1);
        due(first.which(0), 0);
    }

    private static void seenWithoutSupply() {
        says(TERMS, "also if there was no SUPPLY)");
        for (int by : new int[] {0, 9}) {
            SkyTenders x = told("Fr1Mr01");
            x.see(0, by, 0);
            due(x.which(0), 9);
            x.see(0, by, 1);
            due(x.which(0), 0);
        }
    }

    private static void sixSights() {
        says(TERMS, "when one MAKER had another PRICE than it has: 6 such at most, none at first.");
        SkyTenders x = told("Fr1Mr91Mr93");
        due(x.about(7), 0);
        due(x.which(0), 18);
        for (int n = 1; n <= 5; n++) {
            due(x.see(0, 1, 1), n);
        }
        due(x.which(0), 7);
        // The sixth is looked at, too; the seventh is not taken.
        due(x.see(0, 0, 0), 6);
        due(x.which(0), 7);
        due(x.see(0, 1, 0), FULL);
        due(x.which(0), 7);
        due(x.about(7), 6);
        SkyTenders y = told("Fr1Mr91Mr93");
        for (int n = 1; n <= 5; n++) {
            y.see(0, 1, 1);
        }
        due(y.see(0, 1, 0), 6);
        due(y.which(0), 0);
    }

    private static void otherPricesAlone() {
        says(TERMS, "WHICH: MAKERS and PRICES (other ones) by which all that is SEEN is so: how many;"
                + " the first (10 times MAKER and PRICE);");
        for (int makers = 0; makers <= 4; makers++) {
            due(told("Fr1" + times(makers, "Mr90")).which(0), 9 * makers);
            due(told("Fr1" + times(makers, "Mr90")).which(1), makers == 0 ? NONE : 1);
            due(told("Fr1" + times(makers, "Mr91")).which(1), makers == 0 ? NONE : 0);
            due(told("Fr1" + times(makers, "Mr99")).which(0), 9 * makers);
        }
        // The price that it has would fit, but is no other one.
        SkyTenders x = told("Fr1Mr95Mr93");
        x.see(0, 1, 1);
        due(x.which(0), 5 + 4);
        due(x.which(1), 4);
        // Only the last of all that can be: at like prices 2 comes before 3, but at its own old one 1 before 2.
        SkyTenders last = told("Fr1Fw1Ms90Mw99Mrw99Mr98");
        last.see(0, 2, 1);
        last.see(1, 1, 1);
        due(last.which(0), 1);
        due(last.which(1), 39);
    }

    private static void noPriceFits() {
        says(TERMS, "NONE. (What is SEEN");
        SkyTenders x = told("Fr1Mr91Mr93");
        x.see(0, 0, 1);
        x.see(0, 1, 1);
        due(x.which(1), NONE);
        due(x.which(0), 0);
        due(told("").which(1), NONE);
        due(told("").which(0), 0);
    }

    private static SkyTenders seenAndTold(int field, int by, int was, String text) {
        SkyTenders x = told("Fr1Fr1Mr91Mr93");
        due(x.see(field, by, was), 1);
        type(x, text);
        x.tender();
        return x;
    }

    private static void seenOfWhatIsNoMore() {
        says(TERMS, "(What is SEEN of a FIELD or MAKER that is no more was not.)");
        // Field 1 is no more: it was not served, so that it was is not so.
        due(seenAndTold(1, 0, 0, "Fr1Mr91Mr93").which(0), 18);
        due(seenAndTold(1, 0, 1, "Fr1Mr91Mr93").which(0), 0);
        due(seenAndTold(1, 9, 0, "Fr1Mr91Mr93").which(0), 18);
        due(seenAndTold(1, 9, 1, "Fr1Mr91Mr93").which(1), NONE);
        // Maker 1 is no more.
        due(seenAndTold(0, 1, 0, "Fr1Fr1Mr91").which(0), 9);
        due(seenAndTold(0, 1, 1, "Fr1Fr1Mr91").which(0), 0);
        // Neither is there, nor is anything.
        due(seenAndTold(1, 1, 0, "Fr1Mr91").which(0), 9);
        due(seenAndTold(1, 1, 1, "Fr1Mr91").which(0), 0);
        due(seenAndTold(1, 1, 0, "Mr91").which(0), 9);
        due(seenAndTold(1, 1, 1, "Mr91").which(0), 0);
        due(seenAndTold(1, 1, 0, "").which(0), 0);
        // By going on from a slot, too.
        SkyTenders x = told("Fr1Fr1Mr91Mr93");
        x.see(1, 9, 1);
        type(x, "Fr1Mr91");
        x.tender();
        x.keep(0);
        due(x.again(0), 1);
        due(x.about(7), 1);
        due(x.which(0), 0);
    }

    private static void dueGone(SkyTenders x, int tenths, int above, int below) {
        due(x.gone(tenths, true), above);
        due(x.gone(tenths, false), below);
    }

    private static void tenths() {
        says(TERMS, "GONE: each MAKER is gone by x tenths (0 .. 10), by itself: that there is a SUPPLY"
                + " by those that are left: a FRACTION.");
        int[][] one = {{1, 1}, {9, 10}, {4, 5}, {7, 10}, {3, 5}, {1, 2}, {2, 5}, {3, 10}, {1, 5}, {1, 10}, {0, 1}};
        for (int x = 0; x <= 10; x++) {
            dueGone(told("Fr1Mr91"), x, one[x][0], one[x][1]);
            // Always, or never, whoever is gone.
            dueGone(told("Mr91Mr91Mr91Mr91"), x, 1, 1);
            dueGone(told("Fs1Mr91Mr91Mr91Mr91"), x, 0, 1);
            dueGone(told(""), x, 1, 1);
            dueGone(told("Fs1"), x, 0, 1);
        }
        // By itself: one of two, both of two, one of four, all of four.
        dueGone(told("Fr1Mr91Mr91"), 9, 19, 100);
        dueGone(told("Fr2Fw2Mr21Mw21"), 9, 1, 100);
        dueGone(told("Fr1Mr91Mr91Mr91Mr91"), 1, 9999, 10000);
        dueGone(told("Fr2Fw2Fs2Fr3Mr21Mw21Ms21Mr31"), 9, 1, 10000);
        dueGone(told("Fr1Mr91Mr91Mr91Mr91"), 0, 1, 1);
        dueGone(told("Fr1Mr91Mr91Mr91Mr91"), 10, 0, 1);
    }

    /** What x becomes, with whole numbers of any size. */
    private static BigInteger stepped(BigInteger x) {
        return x.multiply(FACTOR).add(ADDED).mod(ALL);
    }

    private static int priceBy(BigInteger x) {
        return x.shiftRight(33).mod(BigInteger.TEN).intValue();
    }

    private static BigInteger unsigned(long v) {
        return BigInteger.valueOf(v).mod(ALL);
    }

    private static void timesDrawn() {
        says(TERMS, "DRAWN by THE SEED: m times (1 .. 20) each MAKER, 0 first, gets a PRICE:");
        for (int m = 1; m <= 20; m++) {
            SkyTenders x = told("Fr1Fw5Mr90Mw90");
            BigInteger seed = BigInteger.ZERO;
            int together = 0;
            for (int i = 0; i < m; i++) {
                BigInteger second = stepped(stepped(seed));
                together += priceBy(stepped(seed)) + 5 * priceBy(second);
                seed = second;
            }
            due(x.drawn(m), together);
            due(x.seed(0), seed.longValue());
        }
        due(told("Fr1Mr90").drawn(0), BAD);
        due(told("Fr1Mr90").drawn(21), BAD);
        // Without makers nothing is drawn.
        SkyTenders none = told("Fr1");
        none.seed(8);
        due(none.drawn(20), 0);
        due(none.seed(0), 8);
    }

    private static void seedAtFirst() {
        says(TERMS, "x (THE SEED, a long; 0 at first)");
        due(new SkyTenders().seed(1), 0);
        SkyTenders x = told("Fr1Mr90");
        x.drawn(1);
        due(x.seed(0), 1442695040888963407L);
    }

    private static void wrapping() {
        says(TERMS, "becomes x times 6364136223846793005 and 1442695040888963407 (64 bits, wrapping);");
        long[] seeds = {0, 1, -1, 2, 3, Long.MAX_VALUE, Long.MIN_VALUE, Long.MAX_VALUE - 1, Long.MIN_VALUE + 1,
            1L << 32, -(1L << 32), 0x7fffffffffffffffL >>> 1, 6364136223846793005L, -1442695040888963407L};
        for (long seed : seeds) {
            SkyTenders x = told("Fr1Mr90");
            x.seed(seed);
            BigInteger next = stepped(unsigned(seed));
            due(x.drawn(1), priceBy(next));
            due(x.seed(0), next.longValue());
        }
    }

    private static void upperBits() {
        says(TERMS, "what is left of its upper 31 bits by 10:");
        // Seeds by which x becomes just these: the step backwards.
        BigInteger back = FACTOR.modInverse(ALL);
        long[] becomes = {0, -1, 1L << 33, (1L << 33) - 1, 9L << 33, 10L << 33, (10L << 33) - 1, Long.MIN_VALUE,
            Long.MAX_VALUE, Long.MIN_VALUE | 7L << 33};
        int[] prices = {0, 7, 1, 0, 9, 0, 9, 4, 3, 1};
        for (int i = 0; i < becomes.length; i++) {
            SkyTenders x = told("Fr1Mr90");
            x.seed(unsigned(becomes[i]).subtract(ADDED).multiply(back).mod(ALL).longValue());
            due(x.drawn(1), prices[i]);
            due(x.seed(0), becomes[i]);
        }
    }

    private static void drawnWithoutSupply() {
        says(TERMS, "LEAST by these (0 if there is no SUPPLY), each time, together.");
        for (int m = 1; m <= 20; m++) {
            SkyTenders x = told("Fr1Mw90");
            due(x.drawn(m), 0);
            BigInteger seed = BigInteger.ZERO;
            for (int i = 0; i < m; i++) {
                seed = stepped(seed);
            }
            due(x.seed(0), seed.longValue());
        }
    }

    private static void nothingButTheSeed() {
        says(TERMS, "(Nothing changes but THE SEED.)");
        due(leavesAll(Sentences::rich, x -> {
            int drawn = x.drawn(20);
            long seed = x.seed(77);
            return drawn >= 0 && seed != 77 ? 1 : 0;
        }), 1);
    }

    private static void slots() {
        says(TERMS, "SLOTS 0 .. 1 keep FIELDS, MAKERS, PATIENCE (no DOINGS when one goes on).");
        for (int slot = 0; slot <= 1; slot++) {
            SkyTenders x = told("Fr1Fs4Mr91Ms93");
            x.bear(3);
            due(x.keep(slot), 2);
            x.bear(0);
            x.want(1, 5);
            x.reprice(0, 8);
            x.restock(1, 2);
            due(x.about(6), 5);
            due(x.again(1 - slot), LATE);
            due(x.again(slot), 2);
            due(x.about(2), 3);
            due(x.field(1, 1), 4);
            due(x.maker(0, 2), 1);
            due(x.maker(1, 1), 9);
            due(x.about(6), 0);
            due(x.undo(), LATE);
        }
        for (int slot : new int[] {-1, 2, LOW, HIGH}) {
            due(rich().keep(slot), UNKNOWN);
            due(rich().again(slot), UNKNOWN);
        }
    }

    private static void refusals() {
        says(TERMS, "REFUSALS: UNKNOWN -1 (there is no such FIELD, MAKER, SLOT), BAD -2, LATE -3, FULL -4.");
        due(SkyTenders.UNKNOWN, -1);
        due(SkyTenders.BAD, -2);
        due(SkyTenders.LATE, -3);
        due(SkyTenders.FULL, -4);
        due(new SkyTenders().field(0, 0), -1);
        due(new SkyTenders().maker(0, 0), -1);
        due(new SkyTenders().keep(2), -1);
        due(new SkyTenders().about(9), -2);
        due(new SkyTenders().undo(), -3);
        SkyTenders full = new SkyTenders();
        type(full, times(60, "F"));
        due(full.write('F'), -4);
        // UNKNOWN: just those that are not there, for each count of fields and makers.
        for (int count = 0; count <= 4; count++) {
            SkyTenders x = told(times(count, "Fr1") + times(count, "Mr91"));
            for (int i = -1; i <= 5; i++) {
                boolean known = i >= 0 && i < count;
                due(x.field(i, 1), known ? 1 : UNKNOWN);
                due(x.maker(i, 1), known ? 9 : UNKNOWN);
                due(x.share(i, true) == UNKNOWN ? 1 : 0, known ? 0 : 1);
                due(x.gain(i, 1) == UNKNOWN ? 1 : 0, known ? 0 : 1);
            }
        }
    }

    private static void constants() {
        says(TERMS, "NONE is -9.");
        due(SkyTenders.NONE, -9);
        due(told("Fr1").best(), -9);
    }

    private static void toldFirst() {
        says(TERMS, "Of several what is told first.");
        refuses(BAD, TOO_MUCH, x -> x.write(256));
        refuses(UNKNOWN, x -> x.field(3, 3));
        refuses(UNKNOWN, x -> x.maker(3, 5));
        refuses(UNKNOWN, x -> x.reprice(3, 10));
        refuses(UNKNOWN, x -> x.restock(3, 10));
        refuses(UNKNOWN, x -> x.want(3, 6));
        refuses(UNKNOWN, x -> x.gain(3, 10));
        refuses(BAD, x -> x.holds(1000));
        refuses(UNKNOWN, TOO_MUCH, x -> x.see(3, 0, 2));
        refuses(UNKNOWN, TOO_MUCH, x -> x.see(0, 3, 2));
        refuses(UNKNOWN, TOO_MUCH, x -> x.see(0, 3, 1));
        refuses(BAD, TOO_MUCH, x -> x.see(0, 0, 2));
        refuses(UNKNOWN, x -> x.again(2));
    }

    private static void refusedChangesNothing() {
        says(TERMS, "What is refused changes nothing.");
        // Each refusal alone is looked at with its promise; here all of them come in a row.
        due(leavesAll(TOO_MUCH, x -> x.write(256) + x.write('F') + x.tender() + x.about(9)
                + x.field(3, 0) + x.field(0, 3) + x.maker(3, 0) + x.maker(0, 5)
                + x.reprice(3, 0) + x.reprice(0, 10) + x.restock(3, 0) + x.restock(0, 10)
                + x.want(3, 1) + x.want(0, 6) + x.bear(5) + x.cost(1000) + x.gain(3, 0) + x.gain(0, 10)
                + x.ran(3) + x.least(8) + x.most(8) + x.holds(1000) + x.holds(0) + x.judge(5, 0)
                + x.share(3, true) + x.see(3, 0, 0) + x.see(0, 3, 0) + x.see(0, 0, 2) + x.see(0, 0, 0)
                + x.which(2) + x.gone(11, true) + x.drawn(21) + x.keep(2) + x.again(2) + x.again(1)),
                11 * UNKNOWN + 19 * BAD + 3 * LATE + 2 * FULL);
    }

    /** An object whose text and sights are full. */
    private static final Maker TOO_MUCH = () -> {
        SkyTenders x = rich();
        type(x, times(60, "F"));
        for (int n = 0; n < 4; n++) {
            x.see(0, 0, 0);
        }
        return x;
    };

    private static void fractions() {
        says(TERMS, "FRACTIONS are told above (upper = true; less than 0, if they are), below, in least terms.");
        // 0 is 0 / 1, all is 1 / 1; 5000 / 10000, 6 / 24, 12 / 24 are made small.
        dueGone(told("Fr1Mr91"), 10, 0, 1);
        dueGone(told("Fr1Mr91"), 0, 1, 1);
        dueGone(told("Fr1Mr91Mw91Mw91Mw91"), 5, 1, 2);
        dueGone(told("Fr1Mr91Mw91Mw91Mw91"), 2, 4, 5);
        dueGone(told("Fr1Mr91Mr91Mr91Mr91"), 5, 15, 16);
        SkyTenders x = told("Fr1Fr1Mr91Mr91Mw91Mw91");
        due(x.share(0, true), 1);
        due(x.share(0, false), 1);
        due(x.share(3, true), 0);
        due(x.share(3, false), 1);
        SkyTenders y = told("Fr1Mr91Mr91Mr91Mr91");
        due(y.share(0, true), 1);
        due(y.share(0, false), 4);
    }
}
