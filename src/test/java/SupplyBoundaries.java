/** Boundaries of part 2 of the terms: what makers are paid and gain, years, MOST, HOLDS, JUDGED, SHARE. */
final class SupplyBoundaries extends Sentences {
    static void all() {
        nothingIsChanged();
        paidNone();
        gainNone();
        yearsTillStocksAreOut();
        noYearWithoutFields();
        mostAndWithout();
        sharesThatHold();
        leastLeague();
        oneToFourDoings();
        judgedPriced();
        judgedStocked();
        judgedWanted();
        judgedBorne();
        judgedServed();
        judgedAfforded();
        judgedReached();
        judgedNoSuchDoing();
        placeOfTheFirst();
        sharesInTheMean();
    }

    private static void nothingIsChanged() {
        says(TERMS, "In what follows nothing is changed.");
        due(leavesAll(Sentences::rich, x -> x.maker(0, 4)), 8);
        due(leavesAll(Sentences::rich, x -> x.gain(0, 9)), 0);
        due(leavesAll(Sentences::rich, x -> x.about(5)), 4);
        due(leavesAll(Sentences::rich, x -> x.ran(2)), 129);
        due(leavesAll(Sentences::rich, x -> x.most(7)), 3);
        due(leavesAll(Sentences::rich, x -> x.holds(210)), 2);
        due(leavesAll(Sentences::rich, x -> x.judge(4, 1009210330054004L)), NONE);
        due(leavesAll(Sentences::rich, x -> x.judge(4, 1009210330054005L)), 3);
        due(leavesAll(Sentences::rich, x -> x.share(0, true)), 1);
    }

    private static void paidNone() {
        says(TERMS, "NONE, if there is no SUPPLY, or none without it. GAIN");
        // None at all, by weather or by stock.
        due(told("Fr1Mw91").maker(0, 4), NONE);
        due(told("Fr2Mr11Mr11").maker(0, 4), NONE);
        due(told("Fr2Mr11Mr11").maker(1, 4), NONE);
        due(told("Fr2Fs1Mr91Mr91").maker(0, 4), NONE);
        // None without it: it is the only one, or the others' stock is one unit too small.
        due(told("Fr2Mr21").maker(0, 4), NONE);
        due(told("Fr2Mr21Mr19").maker(0, 4), NONE);
        due(told("Fr2Mr21Mr29").maker(0, 4), 18);
        due(told("Fr2Mr21Mr19").maker(1, 4), 0);
        // It serves nothing, and no field wants it, where there are none.
        due(told("Mr21").maker(0, 4), 0);
        // Paid with nothing: neither costs anything, with or without it.
        due(told("Fr2Mr20Mr20").maker(0, 4), 0);
        due(told("Fr5Mr90Mr99").maker(0, 4), 45);
    }

    private static void gainNone() {
        says(TERMS, "NONE, if it would not be PAID.");
        for (int v = 0; v <= 9; v++) {
            due(told("Fr1Mr91").gain(0, v), NONE);
            due(told("Fr1Mw91").gain(0, v), NONE);
            due(told("Fr2Mr91Mr19").gain(0, v), NONE);
            due(told("Fr2Mr91Mr19").gain(1, v), 0);
            due(told("Mr91").gain(0, v), 0);
        }
        // By its own price it gains what it is paid beyond that; by a loss it gains less than 0.
        due(told("Fr5Mr90Mr99").gain(0, 0), 45);
        due(told("Fr5Mr90Mr99").gain(0, 9), 45);
        due(told("Fr5Mr90Mr99").gain(1, 0), 0);
        due(told("Fr5Mr99Mr90").gain(0, 0), -45);
        due(told("Fr5Mr99Mr90").gain(1, 0), 45);
    }

    private static void yearsTillStocksAreOut() {
        says(TERMS, "RUN are YEARS, one by one, as long as there is a SUPPLY by the STOCKS that are left:"
                + " FIELDS are served by BEST, and STOCKS are less by the UNITS.");
        for (int units = 1; units <= 5; units++) {
            for (int stock = 0; stock <= 9; stock++) {
                SkyTenders x = told("Fr" + units + "Mr" + stock + "3");
                int years = stock / units;
                due(x.about(5), years);
                due(x.ran(0), NONE);
                due(x.ran(1), years * units * 3);
                due(x.ran(2), stock % units);
            }
        }
        SkyTenders most = told("Fr1Mr99Mr99Mr99Mr99");
        due(most.about(5), 36);
        due(most.ran(1), 324);
        due(most.ran(2), 0);
        // A maker of another weather keeps its stock, which is no supply.
        SkyTenders other = told("Fr1Mr91Mw71");
        due(other.about(5), 9);
        due(other.ran(2), 7);
        // At first for nothing by the maker, then second-hand, as too little is left.
        SkyTenders late = told("Fr1Fr1Mr70");
        due(late.about(5), 4);
        due(late.ran(0), 3);
        due(late.ran(2), 0);
    }

    private static void noYearWithoutFields() {
        says(TERMS, "(Without FIELDS no YEAR is RUN.)");
        SkyTenders x = told("Mr91Mw02Ms33");
        due(x.about(5), 0);
        due(x.ran(0), NONE);
        due(x.ran(1), 0);
        due(x.ran(2), 903);
        due(told("").about(5), 0);
    }

    private static void mostAndWithout() {
        says(TERMS, "how many FIELDS can be served at most, if these alone are there, others stay without"
                + " (one without serves none behind it; all else as of a SUPPLY).");
        // None can be, all can be.
        due(told("Fr1Fr1Fr1Fr1Mw99").most(1), 0);
        due(told("Fr1Fr1Fr1Fr1Mr49").most(1), 4);
        due(told("Fr1Fr1Fr1Fr1Mr49").most(0), 0);
        due(told("Fr1Fr1Fr1Fr1Mr09").most(1), 0);
        // Field 0 stays without, so field 1 can not be second-hand; its own stock decides.
        due(told("Fr5Fr1Mr19").most(1), 1);
        due(told("Fr5Fr5Mr49").most(1), 0);
        due(told("Fr5Fr3Fr3Mr39").most(1), 2);
        due(told("Fw1Fr3Fr3Mr39").most(1), 2);
        due(told("Fr3Fw1Fr3Mr39").most(1), 1);
        // One that takes all stays without for two that take less.
        due(told("Fr5Fw2Fs3Mrws50").most(1), 2);
        due(told("Fr5Fw3Fs3Mrws50").most(1), 1);
        // Patience holds here, too.
        SkyTenders x = told("Fr3Fr3Fr3Fr3Mr39");
        for (int v = 0; v <= 4; v++) {
            x.bear(v);
            due(x.most(1), Math.min(1 + v, 4));
        }
        // By these alone.
        SkyTenders y = told("Fr1Fw1Fs1Mr91Mw91Ms91");
        for (int league = 0; league <= 7; league++) {
            due(y.most(league), Integer.bitCount(league));
        }
    }

    private static void sharesThatHold() {
        says(TERMS, "HOLDS: told shares (a figure of each MAKER, 0 first) that together are MOST of all MAKERS:"
                + " no LEAGUE (some MAKERS, as bits) has fewer of its shares together than its MOST;");
        SkyTenders x = told("Fr1Fw1Fs1Fr1Mr91Mw91Ms91Mw00");
        // MOST of maker 0 is 2, of 1 and 2 is 1, of 3 is 0, of all is 4.
        due(x.holds(2110), NONE);
        due(x.holds(2111), LATE);
        due(x.holds(2100), LATE);
        due(x.holds(2101), 4);
        due(x.holds(2011), 2);
        due(x.holds(1111), 1);
        // Just as many as MOST is not fewer.
        due(told("Fr1Mr91").holds(1), NONE);
        due(told("").holds(0), NONE);
    }

    private static void leastLeague() {
        says(TERMS, "else the least LEAGUE, as a number, that has.");
        SkyTenders x = told("Fr1Mr91Mr91Mr91Mr91");
        due(x.holds(1000), 2);
        due(x.holds(100), 1);
        due(x.holds(10), 1);
        due(x.holds(1), 1);
        SkyTenders y = told("Fr1Fr1Fr1Mw91Mr11Mr11Mr11");
        due(y.bear(0), 1);
        due(y.holds(111), NONE);
        due(y.holds(3000), 2);
        due(y.holds(120), 8);
        due(y.holds(210), 8);
        due(y.holds(201), 4);
        due(y.holds(300), 4);
        due(y.holds(12), 2);
        due(y.holds(3), 2);
        due(told("Fr1Mw91Mw91Mw91Mr91").holds(1000), 8);
    }

    private static SkyTenders two() {
        // BEST is 09 and costs 4; MOST is 2.
        return told("Fr2Fr2Mr92Mr95");
    }

    private static void oneToFourDoings() {
        says(TERMS, "JUDGED: n doings (1 .. 4), told as four figures each, the first doing's the highest of row");
        long row = 0;
        for (int n = 1; n <= 4; n++) {
            row = row * 10000 + 1005;
            due(two().judge(n, row), NONE);
            due(two().judge(n, row + 4), NONE);
            due(two().judge(n, row + 1000), NONE);
            due(two().judge(n, row - 1000), n - 1);
        }
        due(two().judge(0, 0), BAD);
        due(two().judge(5, 1005), BAD);
        // Of fewer figures the highest ones are 0, and the first doing is none.
        due(two().judge(2, 1005), 0);
        due(two().judge(4, 100510051005L), 0);
        due(two().judge(4, 5010051005L), 0);
    }

    /** Of all doings of a kind just those can be that these figures tell. */
    private static void dueOfKind(int kind, String figures) {
        for (int rest = 0; rest < 1000; rest++) {
            int told = 1000 * kind + rest;
            due(two().judge(1, told), String.valueOf(10000 + told).substring(2).matches(figures) ? NONE : 0);
        }
    }

    private static void judgedPriced() {
        says(TERMS, "1, a MAKER, 0, v: PRICED;");
        dueOfKind(1, "[01]0[0-9]");
        due(told("Fr1").judge(1, 1000), 0);
        due(told("Mr11Mr11Mr11Mr11").judge(1, 1300), NONE);
        due(told("Mr11Mr11Mr11Mr11").judge(1, 1400), 0);
    }

    private static void judgedStocked() {
        says(TERMS, "2, a MAKER, 0, v: STOCKED;");
        dueOfKind(2, "[01]0[0-9]");
        due(told("Fr1").judge(1, 2000), 0);
        due(told("Mr11Mr11Mr11Mr11").judge(1, 2309), NONE);
        due(told("Mr11Mr11Mr11Mr11").judge(1, 2409), 0);
    }

    private static void judgedWanted() {
        says(TERMS, "3, a FIELD, 0, v: WANTED;");
        dueOfKind(3, "[01]0[1-5]");
        due(told("Mr11").judge(1, 3001), 0);
        due(told("Fr1Fr1Fr1Fr1").judge(1, 3305), NONE);
        due(told("Fr1Fr1Fr1Fr1").judge(1, 3405), 0);
    }

    private static void judgedBorne() {
        says(TERMS, "4, 0, 0, v: BORNE;");
        dueOfKind(4, "00[0-4]");
        due(told("").judge(1, 4004), NONE);
        due(told("").judge(1, 4005), 0);
    }

    private static void judgedServed() {
        says(TERMS, "5, a FIELD, 0, b: BEST serves it by MAKER b (9: SECOND-HAND);");
        dueOfKind(5, "000|109");
        due(told("").judge(1, 5000), 0);
        // No supply: BEST serves it by none.
        for (int b = 0; b <= 9; b++) {
            due(told("Fr2Mr12").judge(1, 5000 + b), 0);
        }
    }

    private static void judgedAfforded() {
        says(TERMS, "6, 0, two figures: there is a SUPPLY, and LEAST is no more than they tell, the first for tens;");
        dueOfKind(6, "0(0[4-9]|[1-9][0-9])");
        due(told("").judge(1, 6000), NONE);
        due(told("Fr1").judge(1, 6099), 0);
        // 99 is the most that can be told.
        SkyTenders dear = told("Fr5Fw5Fs1Mrws99Mrws99Mrws99");
        due(dear.about(3), 99);
        due(dear.judge(1, 6099), NONE);
        due(dear.judge(1, 6098), 0);
        due(dear.judge(2, 32026099), 1);
    }

    private static void judgedReached() {
        says(TERMS, "7, 0, 0, v: MOST of all MAKERS is v)");
        dueOfKind(7, "002");
        due(told("").judge(1, 7000), NONE);
        due(told("").judge(1, 7001), 0);
        due(told("Fr1").judge(1, 7000), NONE);
        due(told("Fr1Fr1Fr1Fr1Mr91").judge(1, 7004), NONE);
        due(told("Fr1Fr1Fr1Fr1Mr91").judge(1, 7003), 0);
    }

    private static void judgedNoSuchDoing() {
        says(TERMS, "the place of the first that can not be");
        dueOfKind(0, "none");
        dueOfKind(8, "none");
        dueOfKind(9, "none");
    }

    private static void placeOfTheFirst() {
        says(TERMS, "(or is not so); NONE: none. SHARE");
        due(two().judge(4, 1000500040046099L), NONE);
        due(two().judge(4, 9000500040046099L), 0);
        due(two().judge(4, 1000500140046099L), 1);
        due(two().judge(4, 1000500040056099L), 2);
        due(two().judge(4, 1000500040047003L), 3);
        // Of two the first.
        due(two().judge(4, 1000500140057003L), 1);
        due(two().judge(4, 9999999999999999L), 0);
        // By what those before it have done: each kind of them.
        due(two().judge(2, 10095001), NONE);
        due(two().judge(2, 20015000), 1);
        due(two().judge(4, 2001210170006099L), 3);
        due(two().judge(2, 31055109), 1);
        due(two().judge(2, 40007002), NONE);
        due(two().judge(2, 40005109), 1);
        // What comes behind does not count for one before it.
        due(two().judge(2, 50001009), NONE);
        due(two().judge(2, 51094000), NONE);
    }

    private static void dueShare(SkyTenders x, int maker, int above, int below) {
        due(x.share(maker, true), above);
        due(x.share(maker, false), below);
    }

    private static void sharesInTheMean() {
        says(TERMS, "SHARE of a MAKER: if MAKERS come one by one, in each order as likely: by how much in the mean MOST"
                + " of those that have come is more when it has come than it was: a FRACTION.");
        // One maker, one order; then two, six and 24 of them.
        dueShare(told("Fr1Fr1Fr1Fr1Mr91"), 0, 4, 1);
        dueShare(told("Fr1Mr91Mr91"), 1, 1, 2);
        dueShare(told("Fr1Mr91Mr91Mr91"), 1, 1, 3);
        dueShare(told("Fr1Mr91Mr91Mr91Mr91"), 1, 1, 4);
        dueShare(told("Fr1Fr1Fr1Mr91Mr91Mr91Mr91"), 3, 3, 4);
        dueShare(told("Fr1Fr1Mr91Mr91Mr91Mr91"), 3, 1, 2);
        dueShare(told("Fr1Mw91Mr00"), 0, 0, 1);
        dueShare(told("Fr1Mw91Mr00"), 1, 0, 1);
        dueShare(told("Mw91"), 0, 0, 1);
    }
}
