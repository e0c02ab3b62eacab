/** Boundaries of promises 1 to 30: each refusal (by which nothing is changed), each NONE, each end of a range. */
final class PromiseBoundaries extends Sentences {
    private static final int[] FAR = {-1, LOW, HIGH};

    static void all() {
        promise1();
        promise2();
        promise3();
        promise4();
        promise5Stays();
        promise5Late();
        promise6();
        promise7();
        promise8();
        promise9();
        promise10();
        promise11();
        promise12();
        promise13();
        promise14();
        promise15();
        promise16();
        promise17();
        promise18();
        promise19();
        promise20();
        promise21();
        promise22();
        promise23();
        promise24();
        promise25();
        promise26();
        promise27();
        promise28();
        promise29();
        promise30();
    }

    private static void promise1() {
        says(1, "No fields, no makers.");
        SkyTenders x = new SkyTenders();
        int[] about = {0, 0, 1, 0, 0, 0, 0, 0, 0};
        for (int what = 0; what <= 8; what++) {
            due(x.about(what), about[what]);
        }
        due(x.field(0, 0), UNKNOWN);
        due(x.maker(0, 0), UNKNOWN);
        due(x.again(0), LATE);
        due(x.again(1), LATE);
        due(x.undo(), LATE);
        due(x.seed(0), 0);
    }

    private static SkyTenders fullText() {
        SkyTenders x = rich();
        type(x, "Fr1" + times(57, "M"));
        return x;
    }

    private static void promise2() {
        says(2, "A letter (0 .. 255) comes behind THE TEXT: how long it is.");
        SkyTenders x = new SkyTenders();
        for (int n = 1; n <= 60; n++) {
            due(x.write(n % 2 == 0 ? 0 : 255), n);
        }
        for (int letter = 0; letter <= 255; letter++) {
            due(new SkyTenders().write(letter), 1);
        }
        // Behind, not ahead.
        SkyTenders y = new SkyTenders();
        for (char letter : "Mr12".toCharArray()) {
            y.write(letter);
        }
        due(y.tender(), 1);
        due(y.maker(0, 1), 1);
        due(y.maker(0, 2), 2);
        says(2, "BAD; FULL");
        for (int letter : new int[] {-1, 256, LOW, HIGH, 256 + 'F', 'F' - 256, 65536 + 'F'}) {
            refuses(BAD, p -> p.write(letter));
            refuses(BAD, PromiseBoundaries::fullText, p -> p.write(letter));
        }
        says(2, "FULL: there are 60.");
        due(fullText().about(8), 60);
        for (int letter : new int[] {0, 'F', 255}) {
            refuses(FULL, PromiseBoundaries::fullText, p -> p.write(letter));
        }
        SkyTenders z = fullText();
        z.wipe();
        due(z.write('F'), 1);
    }

    private static void promise3() {
        says(3, "THE TEXT is empty: how long it was.");
        SkyTenders x = new SkyTenders();
        due(x.wipe(), 0);
        due(x.write('F'), 1);
        due(x.wipe(), 1);
        due(x.wipe(), 0);
        due(x.about(8), 0);
        due(x.fault(), NONE);
        due(fullText().wipe(), 60);
        // What was told stays.
        SkyTenders y = told("Fr2Mr34");
        due(y.wipe(), 7);
        due(y.about(0), 1);
        due(y.maker(0, 2), 4);
        // Nothing of the old text is left behind it.
        y.write('F');
        due(y.fault(), 1);
        y.wipe();
        due(y.tender(), 0);
        due(y.about(0), 0);
    }

    private static void promise4() {
        says(4, "FAULT; NONE.");
        due(new SkyTenders().fault(), NONE);
        due(rich().fault(), 23);
        due(fullText().fault(), 4);
        due(leavesAll(Sentences::rich, SkyTenders::fault), 23);
        SkyTenders x = rich();
        x.write('r');
        due(x.fault(), 24);
        x.write('9');
        due(x.fault(), 24);
        SkyTenders y = rich();
        y.write('r');
        y.write('5');
        due(y.fault(), NONE);
    }

    private static void promise5Stays() {
        says(5, "(THE TEXT itself stays; PATIENCE stays; no DOINGS; what was kept is gone; SEEN, THE SEED stay)");
        SkyTenders x = rich();
        x.keep(1);
        x.write('s');
        x.write('5');
        due(x.about(6), 4);
        due(x.tender(), 3);
        due(x.about(0), 4);
        due(x.about(2), 2);
        due(x.about(6), 0);
        due(x.about(7), 2);
        due(x.about(8), 25);
        due(x.fault(), NONE);
        due(x.undo(), LATE);
        due(x.again(0), LATE);
        due(x.again(1), LATE);
        due(x.seed(0), 77);
        // Prices, stocks, units are those of the text again.
        due(x.maker(0, 2), 2);
        due(x.maker(1, 1), 5);
        due(x.field(1, 1), 2);
        // The same text once more, then one letter more, then none.
        due(x.tender(), 3);
        x.write('F');
        due(x.tender(), LATE);
        x.wipe();
        due(x.tender(), 0);
        due(x.about(0), 0);
        due(x.about(1), 0);
    }

    private static void promise5Late() {
        says(5, "LATE: a FAULT.");
        refuses(LATE, SkyTenders::tender);
        refuses(LATE, PromiseBoundaries::fullText, SkyTenders::tender);
        for (String text : new String[] {"F", "M", "Fr", "Mr", "Mr1", "x", "Fr0", "Fr6", "M11", "Fr1 ",
            times(5, "Fr1"), times(5, "Mr11"), "Fr1Mr11F", "Fr1Mr11x"}) {
            refuses(LATE, () -> {
                SkyTenders x = rich();
                type(x, text);
                return x;
            }, SkyTenders::tender);
        }
    }

    private static void promise6() {
        says(6, "FIELDS (what = 0), MAKERS (1), PATIENCE (2), LEAST (3; NONE), MOST of all MAKERS (4), YEARS that are"
                + " RUN (5), DOINGS (6), SEEN (7), letters of THE TEXT (8).");
        int[] about = {3, 3, 2, 10, 3, 4, 4, 2, 23};
        for (int what = 0; what <= 8; what++) {
            int asked = what;
            due(leavesAll(Sentences::rich, x -> x.about(asked)), about[what]);
        }
        // All of them full.
        SkyTenders x = told(times(4, "Fr1") + times(4, "Mrws91"));
        x.bear(4);
        for (int n = 0; n < 20; n++) {
            x.restock(n % 4, 9);
            x.see(0, 0, 1);
            x.write('F');
            x.write('F');
        }
        int[] full = {4, 4, 4, 1, 4, 36, 14, 6, 60};
        for (int what = 0; what <= 8; what++) {
            due(x.about(what), full[what]);
        }
        says(6, "LEAST (3; NONE)");
        due(told("Fr1Mr09").about(3), NONE);
        due(told("Fr1Mr00").about(3), NONE);
        due(told("Fr1Mr10").about(3), 0);
        says(6, "BAD.");
        for (int what : new int[] {-1, 9, LOW, HIGH}) {
            refuses(BAD, y -> y.about(what));
        }
    }

    private static void promise7() {
        says(7, "by whom BEST serves it (2; 9: SECOND-HAND; NONE: there is no SUPPLY).");
        int[] by = {0, 9, 1};
        for (int f = 0; f < 3; f++) {
            int asked = f;
            due(leavesAll(Sentences::rich, x -> x.field(asked, 2)), by[f]);
        }
        SkyTenders none = told("Fr1Fw1Mr91");
        due(none.field(0, 2), NONE);
        due(none.field(1, 2), NONE);
        due(none.field(1, 0), 1);
        due(none.field(1, 1), 1);
        says(7, "UNKNOWN; BAD.");
        for (int what : new int[] {0, 2, 3, -1}) {
            for (int f : new int[] {-1, 3, 4, LOW, HIGH}) {
                refuses(UNKNOWN, x -> x.field(f, what));
            }
        }
        for (int what : new int[] {-1, 3, LOW, HIGH}) {
            refuses(BAD, x -> x.field(0, what));
            refuses(BAD, x -> x.field(2, what));
        }
        due(new SkyTenders().field(0, 0), UNKNOWN);
        due(told("Mr11").field(0, 0), UNKNOWN);
    }

    private static void promise8() {
        says(8, "UNITS that it serves in BEST (3; NONE: there is no SUPPLY), PAID (4; NONE).");
        int[] units = {2, 1, 0};
        int[] paid = {8, NONE, 0};
        for (int m = 0; m < 3; m++) {
            int asked = m;
            due(leavesAll(Sentences::rich, x -> x.maker(asked, 3)), units[m]);
            due(leavesAll(Sentences::rich, x -> x.maker(asked, 4)), paid[m]);
        }
        SkyTenders none = told("Fr1Fw1Mr91");
        due(none.maker(0, 3), NONE);
        due(none.maker(0, 4), NONE);
        due(none.maker(0, 1), 9);
        // The most that one can serve: all of its stock.
        due(told("Fr5Fw4Mrw91").maker(0, 3), 9);
        says(8, "UNKNOWN; BAD.");
        for (int what : new int[] {0, 3, 4, 5, -1}) {
            for (int m : new int[] {-1, 3, 4, 9, LOW, HIGH}) {
                refuses(UNKNOWN, x -> x.maker(m, what));
            }
        }
        for (int what : new int[] {-1, 5, LOW, HIGH}) {
            refuses(BAD, x -> x.maker(0, what));
            refuses(BAD, x -> x.maker(2, what));
        }
        due(new SkyTenders().maker(0, 0), UNKNOWN);
        due(told("Fr1").maker(0, 0), UNKNOWN);
    }

    private static void promise9() {
        says(9, "UNKNOWN; BAD: v (0 .. 9).");
        SkyTenders x = rich();
        int was = 3;
        for (int v = 0; v <= 9; v++) {
            due(x.reprice(0, v), was);
            due(x.maker(0, 2), v);
            was = v;
        }
        // Another price may be the same one: a doing as well.
        due(x.about(6), 14);
        SkyTenders same = told("Mr11");
        due(same.reprice(0, 1), 1);
        due(same.about(6), 1);
        for (int m : new int[] {-1, 3, 4, 9, LOW, HIGH}) {
            refuses(UNKNOWN, y -> y.reprice(m, 5));
            refuses(UNKNOWN, y -> y.reprice(m, 10));
        }
        for (int v : new int[] {-1, 10, LOW, HIGH}) {
            refuses(BAD, y -> y.reprice(0, v));
            refuses(BAD, y -> y.reprice(2, v));
        }
        due(new SkyTenders().reprice(0, 0), UNKNOWN);
    }

    private static void promise10() {
        says(10, "UNKNOWN; BAD: v (0 .. 9).");
        SkyTenders x = rich();
        int was = 6;
        for (int v = 0; v <= 9; v++) {
            due(x.restock(1, v), was);
            due(x.maker(1, 1), v);
            was = v;
        }
        SkyTenders same = told("Mr11");
        due(same.restock(0, 1), 1);
        due(same.about(6), 1);
        for (int m : new int[] {-1, 3, 4, 9, LOW, HIGH}) {
            refuses(UNKNOWN, y -> y.restock(m, 5));
            refuses(UNKNOWN, y -> y.restock(m, 10));
        }
        for (int v : new int[] {-1, 10, LOW, HIGH}) {
            refuses(BAD, y -> y.restock(0, v));
            refuses(BAD, y -> y.restock(2, v));
        }
        due(new SkyTenders().restock(0, 0), UNKNOWN);
    }

    private static void promise11() {
        says(11, "UNKNOWN; BAD: v (1 .. 5).");
        SkyTenders x = rich();
        int was = 1;
        for (int v = 1; v <= 5; v++) {
            due(x.want(1, v), was);
            due(x.field(1, 1), v);
            was = v;
        }
        due(x.about(6), 9);
        for (int f : new int[] {-1, 3, 4, 9, LOW, HIGH}) {
            refuses(UNKNOWN, y -> y.want(f, 5));
            refuses(UNKNOWN, y -> y.want(f, 6));
        }
        for (int v : new int[] {-1, 0, 6, 9, LOW, HIGH}) {
            refuses(BAD, y -> y.want(0, v));
            refuses(BAD, y -> y.want(2, v));
        }
        due(new SkyTenders().want(0, 1), UNKNOWN);
    }

    private static void promise12() {
        says(12, "BAD: v (0 .. 4).");
        SkyTenders x = rich();
        int was = 2;
        for (int v = 0; v <= 4; v++) {
            due(x.bear(v), was);
            due(x.about(2), v);
            was = v;
        }
        due(x.bear(4), 4);
        due(x.about(6), 10);
        for (int v : new int[] {-1, 5, 9, LOW, HIGH}) {
            refuses(BAD, y -> y.bear(v));
        }
        // Without fields and makers, too.
        due(new SkyTenders().bear(0), 1);
    }

    private static SkyTenders withoutDoings() {
        SkyTenders x = rich();
        x.again(0);
        return x;
    }

    private static void promise13() {
        says(13, "The last DOING is undone: how many are left.");
        SkyTenders x = rich();
        for (int left = 3; left >= 0; left--) {
            due(x.undo(), left);
        }
        due(x.about(2), 1);
        due(x.maker(0, 2), 2);
        due(x.maker(1, 1), 5);
        due(x.field(1, 1), 2);
        says(13, "LATE: there is none.");
        due(x.undo(), LATE);
        refuses(LATE, PromiseBoundaries::withoutDoings, SkyTenders::undo);
        refuses(LATE, SkyTenders::new, SkyTenders::undo);
        // What was refused is no doing.
        SkyTenders y = told("Fr1Mr11");
        y.reprice(0, 10);
        y.restock(1, 0);
        y.want(0, 6);
        y.bear(5);
        due(y.undo(), LATE);
    }

    private static void promise14() {
        says(14, "BEST, as figures (without FIELDS: 0); NONE.");
        due(leavesAll(Sentences::rich, SkyTenders::best), 91);
        due(new SkyTenders().best(), 0);
        due(told("Mr00").best(), 0);
        due(told("Fr1Mr00").best(), NONE);
        due(told("Fr1").best(), NONE);
        due(told("Fr1Mr10").best(), 0);
        due(told("Fs1Fs1Fs1Fs1Mr91Mr91Mr91Ms10").best(), NONE);
        SkyTenders x = told("Fs1Fs1Fs1Fs1Mr91Mr91Mr91Ms10");
        x.bear(3);
        due(x.best(), 3999);
    }

    private static void promise15() {
        says(15, "What a told SUPPLY costs; NONE: it is none.");
        due(leavesAll(Sentences::rich, x -> x.cost(91)), 10);
        due(leavesAll(Sentences::rich, x -> x.cost(191)), 12);
        for (int supply : new int[] {0, 9, 99, 90, 2, 201, 301, 801, 901, 991, 999}) {
            due(leavesAll(Sentences::rich, x -> x.cost(supply)), NONE);
        }
        says(15, "BAD: supply (0 or more, as many figures as FIELDS at most).");
        for (int far : new int[] {-1, LOW, HIGH, 1000, 1091, 10091}) {
            refuses(BAD, x -> x.cost(far));
        }
        int bound = 1;
        for (int fields = 0; fields <= 4; fields++) {
            SkyTenders x = told(times(fields, "Fr1") + "Mr91");
            due(x.cost(0), fields);
            due(x.cost(bound - 1), fields == 0 ? 0 : NONE);
            due(x.cost(bound), BAD);
            due(x.cost(-1), BAD);
            bound *= 10;
        }
        // Below 0, whatever its last figures are.
        due(rich().cost(91 - 1000), BAD);
    }

    private static void promise16() {
        says(16, "GAIN of a MAKER by a PRICE v; NONE.");
        // For 0 it serves field 1, too, as its figure is less than 9, and loses by that.
        int[] gain = {-1, 2, 2, 2, 2, 0, 0, 0, 0, 0};
        for (int v = 0; v <= 9; v++) {
            int price = v;
            due(leavesAll(Sentences::rich, x -> x.gain(0, price)), gain[v]);
            due(leavesAll(Sentences::rich, x -> x.gain(1, price)), NONE);
            due(leavesAll(Sentences::rich, x -> x.gain(2, price)), 0);
        }
        says(16, "UNKNOWN; BAD: v (0 .. 9).");
        for (int m : new int[] {-1, 3, 4, 9, LOW, HIGH}) {
            refuses(UNKNOWN, x -> x.gain(m, 5));
            refuses(UNKNOWN, x -> x.gain(m, -1));
        }
        for (int v : new int[] {-1, 10, LOW, HIGH}) {
            refuses(BAD, x -> x.gain(0, v));
            refuses(BAD, x -> x.gain(1, v));
        }
        due(new SkyTenders().gain(0, 0), UNKNOWN);
    }

    private static void promise17() {
        says(17, "The first YEAR (from 0) of those that are RUN in which a FIELD is SECOND-HAND (what = 0; NONE),");
        due(leavesAll(Sentences::rich, x -> x.ran(0)), 0);
        due(told("Fr1Fr1Mr90").ran(0), 4);
        due(told("Fr1Fr1Mr80").ran(0), NONE);
        due(told("Fr1Fr1Mr01").ran(0), NONE);
        due(told("Fr1Fw1Mrw91").ran(0), NONE);
        due(told("").ran(0), NONE);
        due(told("Fr1Fr1Mr10").ran(0), 0);
        // Each time anew.
        SkyTenders again = told("Fr1Fr1Mr91");
        due(again.ran(0), 0);
        again.bear(0);
        due(again.ran(0), NONE);
        again.bear(1);
        due(again.ran(0), 0);
        type(again, "Fr1Mr91");
        again.tender();
        due(again.ran(0), NONE);
        says(17, "what all YEARS cost together (1), STOCKS that are left behind them, as figures, MAKER 0 first"
                + " (2; without MAKERS 0).");
        due(leavesAll(Sentences::rich, x -> x.ran(1)), 40);
        due(leavesAll(Sentences::rich, x -> x.ran(2)), 129);
        due(told("Fr1Mr09").ran(1), 0);
        due(told("Fr1Mr99Mr99Mr99Mr99").ran(1), 324);
        due(told("Fr1").ran(2), 0);
        due(told("").ran(2), 0);
        due(told("Fs1Mr99Mr99Mr99Mr99").ran(2), 9999);
        due(told("Fs1Mr09Mr09Mr09Mr19").ran(2), 1);
        due(told("Fs1Mr19Mr09Mr09Mr09").ran(2), 1000);
        says(17, "BAD.");
        for (int what : new int[] {-1, 3, LOW, HIGH}) {
            refuses(BAD, x -> x.ran(what));
        }
    }

    private static void promise18() {
        says(18, "LEAST by some MAKERS alone (bits); NONE.");
        int[] least = {NONE, NONE, 12, 10, NONE, NONE, 12, 10};
        for (int makers = 0; makers <= 7; makers++) {
            int bits = makers;
            due(leavesAll(Sentences::rich, x -> x.least(bits)), least[makers]);
        }
        says(18, "BAD: makers (bits of those that there are).");
        for (int makers : new int[] {-1, -8, 8, 9, 15, 16, 1 << 30, LOW, HIGH}) {
            refuses(BAD, x -> x.least(makers));
        }
        for (int count = 0; count <= 4; count++) {
            SkyTenders x = told("Fr1" + times(count, "Mr91"));
            due(x.least(0), NONE);
            due(x.least((1 << count) - 1), count == 0 ? NONE : 1);
            due(x.least(1 << count), BAD);
        }
    }

    private static void promise19() {
        says(19, "MOST of some MAKERS (bits).");
        int[] most = {0, 2, 3, 3, 0, 2, 3, 3};
        for (int makers = 0; makers <= 7; makers++) {
            int bits = makers;
            due(leavesAll(Sentences::rich, x -> x.most(bits)), most[makers]);
        }
        says(19, "BAD: makers (bits of those that there are).");
        for (int makers : new int[] {-1, -8, 8, 9, 15, 16, 1 << 30, LOW, HIGH}) {
            refuses(BAD, x -> x.most(makers));
        }
        for (int count = 0; count <= 4; count++) {
            SkyTenders x = told("Fr1" + times(count, "Mr91"));
            due(x.most(0), 0);
            due(x.most((1 << count) - 1), count == 0 ? 0 : 1);
            due(x.most(1 << count), BAD);
        }
    }

    private static void promise20() {
        says(20, "HOLDS: the LEAGUE; NONE: they hold.");
        due(told("Fr1Fw1Mr91Mw91").holds(11), NONE);
        due(told("Fr1Fw1Mr91Mw91").holds(2), 1);
        due(leavesAll(Sentences::rich, x -> x.holds(30)), 1);
        due(leavesAll(Sentences::rich, x -> x.holds(300)), 2);
        due(new SkyTenders().holds(0), NONE);
        says(20, "BAD: shares (0 or more, as many figures as MAKERS at most);");
        for (int shares : new int[] {-1, LOW, HIGH, 1000, 1030, 10030}) {
            refuses(BAD, x -> x.holds(shares));
        }
        int bound = 1;
        for (int count = 0; count <= 4; count++) {
            SkyTenders x = told(times(count, "Mr91"));
            due(x.holds(0), NONE);
            due(x.holds(bound - 1), count == 0 ? NONE : LATE);
            due(x.holds(bound), BAD);
            due(x.holds(-1), BAD);
            bound *= 10;
        }
        says(20, "LATE: together they are not MOST of all.");
        for (int shares : new int[] {0, 2, 20, 200, 4, 40, 400, 112, 999}) {
            refuses(LATE, x -> x.holds(shares));
        }
    }

    private static void promise21() {
        says(21, "JUDGED; NONE.");
        due(leavesAll(Sentences::rich, x -> x.judge(4, 5000510952016010L)), NONE);
        due(leavesAll(Sentences::rich, x -> x.judge(4, 5000510952016009L)), 3);
        says(21, "BAD: n, row (0 or more, 4 n figures at most).");
        for (int n : new int[] {-1, 0, 5, 8, LOW, HIGH}) {
            refuses(BAD, x -> x.judge(n, 0));
            refuses(BAD, x -> x.judge(n, 1000));
            refuses(BAD, x -> x.judge(n, -1));
        }
        long bound = 1;
        for (int n = 1; n <= 4; n++) {
            int count = n;
            bound *= 10000;
            for (long row : new long[] {-1, bound, bound + 1000, Long.MIN_VALUE, Long.MAX_VALUE}) {
                refuses(BAD, x -> x.judge(count, row));
            }
            long last = bound - 1;
            due(leavesAll(Sentences::rich, x -> x.judge(count, last)), 0);
            due(leavesAll(Sentences::rich, x -> x.judge(count, 0)), 0);
        }
    }

    private static void promise22() {
        says(22, "UNKNOWN.");
        for (int m : new int[] {-1, 3, 4, 9, LOW, HIGH}) {
            refuses(UNKNOWN, x -> x.share(m, true));
            refuses(UNKNOWN, x -> x.share(m, false));
        }
        due(new SkyTenders().share(0, true), UNKNOWN);
        due(told("Fr1").share(0, false), UNKNOWN);
        due(leavesAll(Sentences::rich, x -> x.share(1, true)), 2);
        due(leavesAll(Sentences::rich, x -> x.share(2, false)), 1);
    }

    private static SkyTenders sixSeen() {
        SkyTenders x = rich();
        for (int n = 0; n < 4; n++) {
            x.see(2, 1, 1);
        }
        return x;
    }

    private static void promise23() {
        says(23, "SEEN: how many there are.");
        SkyTenders x = told("Fr1Fr1Mr91Mr93");
        int count = 0;
        for (int f = 0; f <= 1; f++) {
            for (int by : new int[] {0, 1, 9}) {
                count++;
                due(x.see(f, by, count % 2), count);
            }
        }
        due(x.about(7), 6);
        says(23, "UNKNOWN: field, by (a MAKER; 9);");
        for (int f : new int[] {-1, 3, 4, 9, LOW, HIGH}) {
            refuses(UNKNOWN, y -> y.see(f, 0, 1));
            refuses(UNKNOWN, y -> y.see(f, 9, 0));
            refuses(UNKNOWN, PromiseBoundaries::sixSeen, y -> y.see(f, 0, 2));
        }
        for (int by : new int[] {-1, 3, 4, 8, 10, LOW, HIGH, NONE}) {
            refuses(UNKNOWN, y -> y.see(0, by, 1));
            refuses(UNKNOWN, y -> y.see(2, by, 0));
            refuses(UNKNOWN, PromiseBoundaries::sixSeen, y -> y.see(0, by, 2));
        }
        due(new SkyTenders().see(0, 9, 1), UNKNOWN);
        due(told("Mr11").see(0, 0, 1), UNKNOWN);
        due(told("Fr1").see(0, 0, 1), UNKNOWN);
        due(told("Fr1").see(0, 9, 1), 1);
        says(23, "BAD: was (0, 1);");
        for (int was : new int[] {-1, 2, 9, LOW, HIGH}) {
            refuses(BAD, y -> y.see(0, 0, was));
            refuses(BAD, PromiseBoundaries::sixSeen, y -> y.see(0, 9, was));
        }
        says(23, "FULL: 6.");
        due(sixSeen().about(7), 6);
        refuses(FULL, PromiseBoundaries::sixSeen, y -> y.see(0, 0, 0));
        refuses(FULL, PromiseBoundaries::sixSeen, y -> y.see(2, 9, 1));
    }

    private static void promise24() {
        says(24, "Nothing is SEEN: how much there was.");
        due(new SkyTenders().unsee(), 0);
        SkyTenders x = sixSeen();
        due(x.unsee(), 6);
        due(x.about(7), 0);
        due(x.unsee(), 0);
        due(x.which(0), 27);
        for (int n = 1; n <= 6; n++) {
            due(x.see(0, 0, 0), n);
        }
        due(x.see(0, 0, 0), FULL);
    }

    private static void promise25() {
        says(25, "WHICH: how many (what = 0), the first (1); NONE.");
        // Field 0 not by maker 0: it had 5 .. 9, or maker 1 had 0 .. 2.
        due(leavesAll(Sentences::rich, x -> x.which(0)), 5 + 2);
        due(leavesAll(Sentences::rich, x -> x.which(1)), 5);
        SkyTenders none = told("Fr1Mr91");
        none.see(0, 9, 1);
        due(none.which(0), 0);
        due(none.which(1), NONE);
        due(new SkyTenders().which(0), 0);
        due(new SkyTenders().which(1), NONE);
        says(25, "BAD.");
        for (int what : new int[] {-1, 2, LOW, HIGH}) {
            refuses(BAD, x -> x.which(what));
            refuses(BAD, SkyTenders::new, x -> x.which(what));
        }
    }

    private static void promise26() {
        says(26, "BAD: x.");
        for (int tenths : new int[] {-1, 11, 100, LOW, HIGH}) {
            refuses(BAD, x -> x.gone(tenths, true));
            refuses(BAD, x -> x.gone(tenths, false));
        }
        // Maker 1 alone makes wind, and can serve all: x tenths, whoever else is gone.
        due(leavesAll(Sentences::rich, x -> x.gone(0, true)), 1);
        due(leavesAll(Sentences::rich, x -> x.gone(0, false)), 1);
        due(leavesAll(Sentences::rich, x -> x.gone(3, true)), 7);
        due(leavesAll(Sentences::rich, x -> x.gone(3, false)), 10);
        due(leavesAll(Sentences::rich, x -> x.gone(10, true)), 0);
        due(leavesAll(Sentences::rich, x -> x.gone(10, false)), 1);
    }

    private static void promise27() {
        says(27, "THE SEED is v: what it was.");
        SkyTenders x = new SkyTenders();
        long was = 0;
        for (long v : new long[] {0, 1, -1, Long.MAX_VALUE, Long.MIN_VALUE, 1L << 32, 1L << 63, 0}) {
            due(x.seed(v), was);
            was = v;
        }
    }

    private static void promise28() {
        says(28, "BAD: m.");
        for (int m : new int[] {-1, 0, 21, LOW, HIGH}) {
            refuses(BAD, x -> x.drawn(m));
            refuses(BAD, SkyTenders::new, x -> x.drawn(m));
        }
        due(new SkyTenders().drawn(1), 0);
        due(new SkyTenders().drawn(20), 0);
    }

    private static void promise29() {
        says(29, "They are kept: how many MAKERS.");
        due(new SkyTenders().keep(0), 0);
        due(new SkyTenders().keep(1), 0);
        due(rich().keep(0), 3);
        due(told("Mr11Mr11Mr11Mr11").keep(1), 4);
        // The other slot stays as it is, and doings can still be undone.
        SkyTenders x = rich();
        due(x.keep(1), 3);
        due(x.undo(), 3);
        due(x.again(0), 3);
        due(x.about(2), 1);
        due(x.again(1), 3);
        due(x.about(2), 2);
        due(x.field(1, 1), 1);
        says(29, "UNKNOWN.");
        for (int slot : FAR) {
            refuses(UNKNOWN, y -> y.keep(slot));
        }
        refuses(UNKNOWN, y -> y.keep(2));
        refuses(UNKNOWN, SkyTenders::new, y -> y.keep(2));
    }

    private static void promise30() {
        says(30, "They are as they were kept: how many MAKERS.");
        SkyTenders x = rich();
        // As often as one likes, and what is kept of nothing is nothing.
        for (int n = 0; n < 3; n++) {
            due(x.again(0), 3);
            due(x.about(2), 1);
            due(x.maker(0, 2), 2);
            due(x.maker(1, 1), 5);
            due(x.field(1, 1), 2);
            x.reprice(0, 9);
            x.restock(1, 0);
            x.want(1, 5);
            x.bear(4);
        }
        SkyTenders empty = new SkyTenders();
        empty.keep(1);
        due(empty.again(1), 0);
        due(empty.about(0), 0);
        says(30, "UNKNOWN; LATE: none were kept.");
        for (int slot : FAR) {
            refuses(UNKNOWN, y -> y.again(slot));
        }
        refuses(UNKNOWN, y -> y.again(2));
        refuses(UNKNOWN, SkyTenders::new, y -> y.again(2));
        refuses(LATE, y -> y.again(1));
        refuses(LATE, SkyTenders::new, y -> y.again(0));
        refuses(LATE, SkyTenders::new, y -> y.again(1));
    }
}
