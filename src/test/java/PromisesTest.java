/** Every promise by hand: ordinary inputs, the edges that the document names, and wrong inputs. */
public final class PromisesTest extends Asking {
    private static void of(int promise) {
        asksOf("promise " + promise);
    }

    public static void main(String[] args) {
        newObject();
        write();
        wipe();
        fault();
        faultOfFigures();
        tender();
        about();
        field();
        maker();
        reprice();
        restock();
        want();
        bear();
        undo();
        undoOfAllKinds();
        undoBehindForgottenOnes();
        best();
        cost();
        gain();
        ran();
        least();
        most();
        holds();
        judge();
        judgeInARow();
        judgeWrongly();
        share();
        see();
        unsee();
        which();
        whichOfWhatIsNoMore();
        gone();
        seed();
        drawn();
        keep();
        again();
        refusalsChangeNothing();
        end();
    }

    private static void newObject() {
        of(1);
        SkyTenders x = new SkyTenders();
        int[] due = {0, 0, 1, 0, 0, 0, 0, 0, 0};
        for (int what = 0; what < due.length; what++) {
            due(x.about(what), due[what]);
        }
        due(x.fault(), NONE);
        due(x.best(), 0);
        due(x.undo(), LATE);
        due(x.again(0), LATE);
        due(x.again(1), LATE);
        due(x.seed(1), 0);
        due(x.field(0, 0), UNKNOWN);
        due(x.maker(0, 0), UNKNOWN);
    }

    private static void write() {
        of(2);
        SkyTenders x = new SkyTenders();
        due(x.write(0), 1);
        due(x.write(255), 2);
        due(x.write(-1), BAD);
        due(x.write(256), BAD);
        due(x.write(LOW), BAD);
        due(x.write(HIGH), BAD);
        due(x.about(8), 2);
        for (int n = 3; n <= 60; n++) {
            due(x.write(n), n);
        }
        due(x.write(70), FULL);
        due(x.write(256), BAD);
        due(x.about(8), 60);
        // The letters come behind, and are kept as they are.
        SkyTenders y = new SkyTenders();
        type(y, "Fr2");
        due(y.tender(), 0);
        y.write('M');
        y.write('s');
        y.write('7');
        due(y.tender(), LATE);
        y.write('4');
        due(y.tender(), 1);
        due(y.maker(0, 1), 7);
        due(y.maker(0, 2), 4);
    }

    private static void wipe() {
        of(3);
        SkyTenders x = told("Fr2Ms74");
        due(x.wipe(), 7);
        due(x.about(8), 0);
        due(x.wipe(), 0);
        due(x.about(0), 1);
        due(x.about(1), 1);
        due(x.write('F'), 1);
        due(x.fault(), 1);
        due(x.wipe(), 1);
        due(x.fault(), NONE);
        for (int n = 1; n <= 60; n++) {
            x.write('F');
        }
        due(x.wipe(), 60);
        due(x.write('F'), 1);
    }

    private static void fault() {
        of(4);
        String fourFields = "Fr1Fw2Fs3Fr4";
        String fourMakers = "Mr11Mw22Ms33Mrws44";
        due(faultOf(""), NONE);
        due(faultOf("F"), 1);
        due(faultOf("Fr"), 2);
        due(faultOf("Fr1"), NONE);
        due(faultOf("Fx1"), 1);
        due(faultOf("F1"), 1);
        due(faultOf("FF"), 1);
        due(faultOf("FR1"), 1);
        due(faultOf("f"), 0);
        due(faultOf("m"), 0);
        due(faultOf(" Fr1"), 0);
        due(faultOf("Fr1 "), 3);
        due(faultOf("Fr 1"), 2);
        due(faultOf("Frw1"), 2);
        due(faultOf("Fr11"), 3);
        due(faultOf("M"), 1);
        due(faultOf("Mr"), 2);
        due(faultOf("Mrws"), 4);
        due(faultOf("Mr0"), 3);
        due(faultOf("Mr00"), NONE);
        due(faultOf("Mrws99"), NONE);
        due(faultOf("Mrs12"), NONE);
        due(faultOf("Mws12"), NONE);
        due(faultOf("Mrw12"), NONE);
        due(faultOf("Mwr12"), 2);
        due(faultOf("Msr12"), 2);
        due(faultOf("Msw12"), 2);
        due(faultOf("Mrsw12"), 3);
        due(faultOf("Mrr12"), 2);
        due(faultOf("Mww12"), 2);
        due(faultOf("Mss12"), 2);
        due(faultOf("Mrwss12"), 4);
        due(faultOf("M12"), 1);
        due(faultOf("Mr1F"), 3);
        due(faultOf("Mr1r"), 3);
        due(faultOf("Mr123"), 4);
        due(faultOf("FxMx"), 1);
        due(faultOf("Fr1Mr11Fw2"), NONE);
        due(faultOf(fourFields), NONE);
        due(faultOf(fourFields + "F"), 12);
        due(faultOf(fourFields + fourMakers), NONE);
        due(faultOf(fourMakers + fourFields), NONE);
        due(faultOf(fourMakers + "M"), 18);
        due(faultOf(fourMakers + "F"), 19);
        due(faultOf(fourFields + "Mr11F"), 16);
        due(faultOf(fourFields + fourMakers + "M"), 30);
        due(faultOf(fourFields + fourMakers + "F"), 30);
        due(faultOf("Mrws11Mrws11Mrws11Mrws11" + fourFields), NONE);
        due(faultOf("\u0000"), 0);
        due(faultOf("\u00ff"), 0);
    }

    private static void faultOfFigures() {
        of(4);
        for (char letter = 0; letter < 256; letter++) {
            boolean figure = letter >= '0' && letter <= '9';
            boolean weather = letter == 'r' || letter == 'w' || letter == 's';
            due(faultOf("Fs" + letter), letter >= '1' && letter <= '5' ? NONE : 2);
            due(faultOf("Ms" + letter), figure ? 3 : 2);
            due(faultOf("Ms7" + letter), figure ? NONE : 3);
            due(faultOf("F" + letter), weather ? 2 : 1);
            due(faultOf("M" + letter), weather ? 2 : 1);
            due(faultOf("Fs1" + letter), letter == 'F' || letter == 'M' ? 4 : 3);
        }
    }

    private static void tender() {
        of(5);
        SkyTenders x = told("Fr2Ms74Fw5Mrw10");
        due(x.tender(), 2);
        due(x.about(0), 2);
        due(x.about(1), 2);
        due(x.about(8), 15);
        due(x.field(1, 0), 1);
        due(x.maker(1, 0), 3);
        x.bear(3);
        x.reprice(0, 9);
        x.see(0, 1, 1);
        x.seed(77);
        x.keep(0);
        x.keep(1);
        type(x, "Fr2Fx");
        due(x.tender(), LATE);
        due(x.about(0), 2);
        due(x.about(6), 2);
        due(x.maker(0, 2), 9);
        due(x.again(0), 2);
        due(x.reprice(1, 9), 0);
        type(x, "Fs1Mr12");
        due(x.tender(), 1);
        due(x.about(0), 1);
        due(x.about(1), 1);
        due(x.about(2), 3);
        due(x.about(6), 0);
        due(x.about(7), 1);
        due(x.about(8), 7);
        due(x.undo(), LATE);
        due(x.again(0), LATE);
        due(x.again(1), LATE);
        due(x.seed(0), 77);
        due(x.field(0, 0), 2);
        due(x.field(1, 0), UNKNOWN);
        due(x.maker(0, 0), 1);
        due(x.maker(1, 0), UNKNOWN);
        type(x, "");
        due(x.tender(), 0);
        due(x.about(0), 0);
        due(x.about(1), 0);
        // A text that is only not at its end is a fault, too.
        type(x, "Fr2M");
        due(x.tender(), LATE);
        due(x.about(0), 0);
        type(x, "Fr2Fr2Fr2Fr2Mrws11Mrws11Mrws11Mrws11");
        due(x.tender(), 4);
        due(x.about(8), 36);
    }

    private static void about() {
        of(6);
        // 09 costs 2; a maker has three units left for a second year, and one behind it.
        SkyTenders x = told("Fr2Fr2Mr51");
        x.reprice(0, 1);
        x.see(1, 9, 1);
        int[] due = {2, 1, 1, 2, 2, 2, 1, 1, 10};
        for (int what = 0; what < due.length; what++) {
            due(x.about(what), due[what]);
        }
        due(x.about(9), BAD);
        due(x.about(-1), BAD);
        due(x.about(LOW), BAD);
        due(x.about(HIGH), BAD);
        x.restock(0, 1);
        due(x.about(3), NONE);
        due(x.about(4), 0);
        due(x.about(5), 0);
        due(x.about(6), 2);
        due(told("Fr1Mr91Mr91Mr91Mr91").about(5), 36);
        due(told("Mr91").about(5), 0);
        due(told("Mr91").about(3), 0);
    }

    private static void field() {
        of(7);
        SkyTenders x = told("Fr2Fr1Fw3Fs5Mws93Mr94Mws90");
        int[][] due = {{0, 2, 1}, {0, 1, 9}, {1, 3, 2}, {2, 5, 2}};
        for (int f = 0; f < 4; f++) {
            for (int what = 0; what < 3; what++) {
                due(x.field(f, what), due[f][what]);
            }
        }
        due(x.field(4, 0), UNKNOWN);
        due(x.field(-1, 0), UNKNOWN);
        due(x.field(LOW, 0), UNKNOWN);
        due(x.field(HIGH, 0), UNKNOWN);
        due(x.field(4, 3), UNKNOWN);
        due(x.field(0, 3), BAD);
        due(x.field(0, -1), BAD);
        x.restock(1, 1);
        due(x.field(0, 2), NONE);
        due(x.field(3, 2), NONE);
        due(x.field(3, 1), 5);
    }

    private static void maker() {
        of(8);
        // Rain of two units: for 4 by maker 0, for 10 by maker 1; maker 2 makes none.
        SkyTenders x = told("Fr2Mr92Mrw95Mrws10");
        int[][] due = {{1, 9, 2, 2, 10}, {3, 9, 5, 0, 0}, {7, 1, 0, 0, 0}};
        for (int m = 0; m < 3; m++) {
            for (int what = 0; what < 5; what++) {
                due(x.maker(m, what), due[m][what]);
            }
        }
        due(x.maker(3, 0), UNKNOWN);
        due(x.maker(-1, 0), UNKNOWN);
        due(x.maker(HIGH, 0), UNKNOWN);
        due(x.maker(LOW, 9), UNKNOWN);
        due(x.maker(0, 5), BAD);
        due(x.maker(0, -1), BAD);
        // None without it.
        x.restock(1, 0);
        due(x.maker(0, 3), 2);
        due(x.maker(0, 4), NONE);
        due(x.maker(1, 4), 0);
        // The other maker serves, too, but not in its place.
        due(told("Fr1Fw2Mr91Mw92").maker(0, 4), NONE);
        due(told("Fr1Fw2Mr91Mw92").maker(1, 4), NONE);
        // Four fields, then fewer: those that are no more want nothing.
        SkyTenders y = told("Fr2Fw2Fs2Fr1Mrws91");
        due(y.maker(0, 3), 7);
        type(y, "Fr2Mrws91");
        y.tender();
        due(y.maker(0, 3), 2);
        // None at all.
        x.restock(0, 1);
        due(x.maker(0, 3), NONE);
        due(x.maker(0, 4), NONE);
        due(x.maker(0, 1), 1);
        // Without fields nobody is paid anything.
        due(told("Mr11").maker(0, 3), 0);
        due(told("Mr11").maker(0, 4), 0);
        // Second-hand costs nothing: the maker is paid for the units ahead alone.
        due(told("Fr2Fr2Mr92Mr95").maker(0, 3), 2);
        due(told("Fr2Fr2Mr92Mr95").maker(0, 4), 10);
    }

    private static void reprice() {
        of(9);
        SkyTenders x = told("Fr2Mr92Mr95");
        due(x.reprice(0, 9), 2);
        due(x.maker(0, 2), 9);
        due(x.best(), 1);
        due(x.reprice(1, 0), 5);
        due(x.about(3), 0);
        due(x.reprice(1, 0), 0);
        due(x.about(6), 3);
        due(x.reprice(2, 0), UNKNOWN);
        due(x.reprice(-1, 0), UNKNOWN);
        due(x.reprice(2, 10), UNKNOWN);
        due(x.reprice(0, 10), BAD);
        due(x.reprice(0, -1), BAD);
        due(x.reprice(1, LOW), BAD);
        due(x.about(6), 3);
        due(x.maker(0, 2), 9);
        due(x.maker(0, 1), 9);
    }

    private static void restock() {
        of(10);
        SkyTenders x = told("Fr2Mr92Mr85");
        due(x.restock(0, 1), 9);
        due(x.maker(0, 1), 1);
        due(x.maker(0, 2), 2);
        due(x.best(), 1);
        due(x.restock(1, 0), 8);
        due(x.best(), NONE);
        due(x.restock(1, 9), 0);
        due(x.about(6), 3);
        due(x.restock(2, 0), UNKNOWN);
        due(x.restock(-1, 0), UNKNOWN);
        due(x.restock(2, 10), UNKNOWN);
        due(x.restock(0, 10), BAD);
        due(x.restock(0, -1), BAD);
        due(x.about(6), 3);
        due(x.maker(0, 1), 1);
    }

    private static void want() {
        of(11);
        SkyTenders x = told("Fr2Fr1Mr92");
        due(x.want(1, 5), 1);
        due(x.field(1, 1), 5);
        due(x.field(0, 1), 2);
        due(x.best(), 0);
        due(x.about(3), 14);
        due(x.want(0, 5), 2);
        due(x.best(), 9);
        due(x.want(0, 1), 5);
        due(x.about(6), 3);
        due(x.want(2, 1), UNKNOWN);
        due(x.want(-1, 1), UNKNOWN);
        due(x.want(2, 0), UNKNOWN);
        due(x.want(0, 0), BAD);
        due(x.want(0, 6), BAD);
        due(x.want(0, -1), BAD);
        due(x.about(6), 3);
        due(x.field(0, 1), 1);
    }

    private static void bear() {
        of(12);
        SkyTenders x = told("Fr2Fr2Fr2Fr2Mr22");
        due(x.best(), NONE);
        due(x.bear(4), 1);
        due(x.best(), 999);
        due(x.bear(3), 4);
        due(x.best(), 999);
        due(x.bear(2), 3);
        due(x.best(), NONE);
        due(x.bear(0), 2);
        due(x.about(2), 0);
        due(x.about(4), 1);
        due(x.about(6), 4);
        due(x.bear(5), BAD);
        due(x.bear(-1), BAD);
        due(x.bear(HIGH), BAD);
        due(x.about(2), 0);
        due(x.about(6), 4);
    }

    private static void undo() {
        of(13);
        SkyTenders x = told("Fr2Mr92");
        due(x.undo(), LATE);
        for (int v = 0; v < 9; v++) {
            x.reprice(0, v);
        }
        for (int v = 0; v < 5; v++) {
            x.bear(4 - v);
        }
        due(x.about(6), 14);
        // The fifteenth: the first one, that made 2 into 0, is forgotten.
        due(x.want(0, 5), 2);
        due(x.about(6), 14);
        due(x.undo(), 13);
        due(x.field(0, 1), 2);
        for (int v = 1; v < 5; v++) {
            due(x.undo(), 13 - v);
            due(x.about(2), v);
        }
        due(x.undo(), 8);
        due(x.about(2), 1);
        for (int v = 7; v >= 0; v--) {
            due(x.undo(), v);
            due(x.maker(0, 2), v);
        }
        due(x.undo(), LATE);
        due(x.maker(0, 2), 0);
        // Behind an undone doing there is room for another one.
        due(x.restock(0, 3), 9);
        due(x.about(6), 1);
        due(x.undo(), 0);
        due(x.maker(0, 1), 9);
    }

    private static void undoOfAllKinds() {
        of(13);
        SkyTenders x = told("Fr2Fw3Mr92Mw81");
        x.reprice(1, 7);
        x.restock(0, 4);
        x.want(1, 5);
        x.bear(4);
        // No doings of the row: they are not undone.
        x.see(0, 0, 1);
        x.seed(5);
        x.keep(0);
        x.write('F');
        due(x.undo(), 3);
        due(x.about(2), 1);
        due(x.field(1, 1), 5);
        due(x.undo(), 2);
        due(x.field(1, 1), 3);
        due(x.maker(0, 1), 4);
        due(x.undo(), 1);
        due(x.maker(0, 1), 9);
        due(x.maker(1, 2), 7);
        due(x.undo(), 0);
        due(x.maker(1, 2), 1);
        due(x.about(7), 1);
        due(x.about(8), 15);
        due(x.seed(0), 5);
        due(x.again(0), 2);
        due(x.maker(1, 2), 7);
    }

    private static void undoBehindForgottenOnes() {
        of(13);
        SkyTenders x = told("Fr1Fw1Fs1Fr1Mr91Mw92Ms93Mrws94");
        // Four rounds of four doings: the first two of them are forgotten.
        for (int round = 1; round <= 4; round++) {
            x.reprice(round - 1, 9);
            x.restock(4 - round, 9 - round);
            x.want(round - 1, 5);
            x.bear(round % 2 * 4);
        }
        due(x.about(6), 14);
        for (int left = 13; left >= 0; left--) {
            due(x.undo(), left);
        }
        due(x.undo(), LATE);
        int[] prices = {9, 2, 3, 4};
        int[] stocks = {9, 9, 9, 8};
        for (int i = 0; i < 4; i++) {
            due(x.maker(i, 1), stocks[i]);
            due(x.maker(i, 2), prices[i]);
            due(x.field(i, 1), 1);
        }
        due(x.about(2), 1);
    }

    private static void best() {
        of(14);
        due(told("").best(), 0);
        due(told("Mr11").best(), 0);
        due(told("Fr1").best(), NONE);
        // Of like ones the least as figures.
        due(told("Fr1Fr1Mr11Mr11").best(), 9);
        due(told("Fr1Fr1Mr90").best(), 0);
        due(told("Fr1Fr1Mr10Mr10").best(), 1);
        due(told("Fs1Fr1Ms11Mr11Ms11").best(), 1);
        due(told("Fr2Mr93Mr92Mr92").best(), 1);
        // A maker of another weather, or of too small a stock, serves none.
        due(told("Fr2Mws90Mr19Mr29").best(), 2);
        // Stock holds for all fields of a maker together.
        due(told("Fr2Fw2Mrw30Mrw49").best(), 1);
        // Second-hand: the same weather, no fewer units, no more than patience.
        due(told("Fr2Fw2Mrw20").best(), NONE);
        due(told("Fr1Fr2Mr20").best(), NONE);
        due(told("Fr2Fr2Mr20").best(), 9);
        due(told("Fr3Fr2Mr30").best(), 9);
        due(told("Fr2Fr2Fr2Mr20").best(), NONE);
        SkyTenders x = told("Fr2Fr2Fr2Mr20");
        x.bear(2);
        due(x.best(), 99);
        // Where to smell: where it saves most, and of like ones at the later field.
        due(told("Fr2Fr2Fs5Fs4Mrs91").best(), 9);
        due(told("Fr5Fr4Fs2Fs2Mrs91").best(), 900);
        due(told("Fr2Fr2Fs2Fs2Mr91Ms91").best(), 19);
        // A cheap maker is kept for the field that it saves most on.
        due(told("Fr3Fw3Mrw31Mr32Mw39").best(), 10);
    }

    private static void cost() {
        of(15);
        SkyTenders x = told("Fr3Fr2Mr51Mw50Mr94");
        due(x.cost(0), 5);
        due(x.cost(9), 3);
        due(x.cost(2), 11);
        due(x.cost(20), 14);
        due(x.cost(22), 20);
        due(x.cost(29), 12);
        due(x.cost(1), NONE);
        due(x.cost(3), NONE);
        due(x.cost(8), NONE);
        due(x.cost(90), NONE);
        due(x.cost(99), NONE);
        due(x.cost(100), BAD);
        due(x.cost(-1), BAD);
        due(x.cost(LOW), BAD);
        due(x.cost(HIGH), BAD);
        x.restock(0, 4);
        due(x.cost(0), NONE);
        due(x.cost(2), 11);
        x.want(0, 1);
        due(x.cost(9), NONE);
        due(x.cost(0), 3);
        x.want(0, 2);
        due(x.cost(9), 2);
        x.bear(0);
        due(x.cost(9), NONE);
        due(told("").cost(0), 0);
        due(told("").cost(1), BAD);
        due(told("").cost(-1), BAD);
        due(told("Fr1").cost(0), NONE);
        due(told("Fr1").cost(10), BAD);
        // Another weather ahead.
        due(told("Fr3Fs2Mrs91").cost(9), NONE);
        SkyTenders y = told("Fr5Fr5Fr5Fr5Mr59");
        y.bear(3);
        due(y.cost(999), 45);
        due(y.cost(9999), NONE);
        due(y.cost(10000), BAD);
    }

    private static void gain() {
        of(16);
        SkyTenders x = told("Fr2Mr92Mr95");
        int[] first = {6, 6, 6, 6, 6, 6, 0, 0, 0, 0};
        int[] other = {-6, -6, 0, 0, 0, 0, 0, 0, 0, 0};
        for (int v = 0; v <= 9; v++) {
            due(x.gain(0, v), first[v]);
            due(x.gain(1, v), other[v]);
        }
        due(x.maker(0, 2), 2);
        due(x.about(6), 0);
        due(x.gain(2, 0), UNKNOWN);
        due(x.gain(-1, 0), UNKNOWN);
        due(x.gain(2, 10), UNKNOWN);
        due(x.gain(0, 10), BAD);
        due(x.gain(0, -1), BAD);
        due(told("Fr2Mr92").gain(0, 0), NONE);
        due(told("Fr2Mr12Mr12").gain(0, 0), NONE);
        due(told("Mr12").gain(0, 9), 0);
        // It would serve 3 units that cost it 9 each, and be paid what the other one asks.
        due(told("Fr3Mr99Mr90").gain(0, 0), -27);
        due(told("Fr3Mr99Mr91").gain(0, 0), -24);
    }

    private static void ran() {
        of(17);
        SkyTenders x = told("Fr2Fr2Mr51");
        due(x.ran(0), 0);
        due(x.ran(1), 4);
        due(x.ran(2), 1);
        due(x.maker(0, 1), 5);
        due(x.ran(-1), BAD);
        due(x.ran(3), BAD);
        due(x.ran(LOW), BAD);
        // For nothing, at first by the maker, as 0 is less than 9; then there is no more for it.
        SkyTenders y = told("Fr2Fr2Mr60");
        due(y.ran(0), 1);
        due(y.ran(1), 0);
        due(y.ran(2), 0);
        due(y.about(5), 2);
        y.bear(0);
        due(y.ran(0), NONE);
        due(y.ran(2), 2);
        due(y.about(5), 1);
        SkyTenders z = told("Fr2Mr19");
        due(z.ran(0), NONE);
        due(z.ran(1), 0);
        due(z.ran(2), 1);
        due(told("Fr2Fw2Fs2Fr1Mrws91").ran(0), NONE);
        due(told("Fr2Fw2Fs2Fs1Mrws91").ran(0), 0);
        type(x, "Fr2Mr51");
        x.tender();
        due(x.ran(0), NONE);
        due(told("Mr19Mw34Ms00").ran(2), 130);
        due(told("Mr19").ran(0), NONE);
        due(told("Fr2").ran(2), 0);
        due(told("").ran(2), 0);
        SkyTenders all = told("Fr1Mr99Mr99Mr99Mr99");
        due(all.ran(1), 324);
        due(all.ran(2), 0);
        // The cheaper maker first, then the other: 4 times 2 and 2 times 10.
        SkyTenders two = told("Fr2Mr55Mr81");
        due(two.about(5), 6);
        due(two.ran(1), 28);
        due(two.ran(2), 10);
    }

    private static void least() {
        of(18);
        SkyTenders x = told("Fr2Mr92Mr95Mw90");
        int[] due = {NONE, 4, 10, 4, NONE, 4, 10, 4, BAD};
        for (int league = 0; league < due.length; league++) {
            due(x.least(league), due[league]);
        }
        due(x.least(-1), BAD);
        due(x.least(16), BAD);
        due(x.least(LOW), BAD);
        due(x.least(HIGH), BAD);
        due(told("Mr11").least(0), 0);
        due(told("Mr11").least(1), 0);
        due(told("Mr11").least(2), BAD);
        due(told("").least(0), 0);
        due(told("").least(1), BAD);
        due(told("Fr1Mr11Mr12Mr13Mr14").least(8), 4);
        due(told("Fr1Mr11Mr12Mr13Mr14").least(15), 1);
        due(told("Fr1Mr11Mr12Mr13Mr14").least(16), BAD);
    }

    private static void most() {
        of(19);
        SkyTenders x = told("Fr2Fr2Fw1Mr20Mw90");
        int[] due = {0, 2, 1, 3, BAD};
        for (int league = 0; league < due.length; league++) {
            due(x.most(league), due[league]);
        }
        due(x.most(-1), BAD);
        due(x.most(LOW), BAD);
        x.bear(0);
        due(x.most(1), 1);
        due(x.most(3), 2);
        // One without serves none behind it.
        due(told("Fr5Fr2Mr20").most(1), 1);
        due(told("Fr5Fr2Fr2Mr20").most(1), 2);
        due(told("Fr5Fr2Mr10").most(1), 0);
        due(told("Fr1Fr2Mr10").most(1), 1);
        due(told("Fr2Fw1Fr2Mr20").most(1), 1);
        // Two small ones before a large one.
        due(told("Fr5Fw2Fs2Mrws50").most(1), 2);
        due(told("Fr5Fw3Fs3Mrws60").most(1), 2);
        SkyTenders y = told("Fr5Fr5Fr5Fr5Mr50");
        due(y.most(1), 2);
        y.bear(4);
        due(y.most(1), 4);
        due(told("").most(0), 0);
        due(told("").most(1), BAD);
        due(told("Fr1").most(0), 0);
        due(told("Mr11").most(1), 0);
    }

    private static void holds() {
        of(20);
        SkyTenders x = told("Fr1Fw1Mr90Mw90");
        due(x.holds(11), NONE);
        due(x.holds(20), 2);
        due(x.holds(2), 1);
        due(x.holds(12), LATE);
        due(x.holds(10), LATE);
        due(x.holds(0), LATE);
        due(x.holds(100), BAD);
        due(x.holds(-1), BAD);
        due(x.holds(LOW), BAD);
        due(x.holds(HIGH), BAD);
        SkyTenders y = told("Fr1Fr1Mr10Mr10Mr10");
        y.bear(0);
        due(y.holds(110), 4);
        due(y.holds(101), 2);
        due(y.holds(11), 1);
        due(y.holds(200), 2);
        SkyTenders z = told("Fr1Mw90Mw90Mw90Mr90");
        due(z.holds(1), NONE);
        due(z.holds(1000), 8);
        due(z.holds(10000), BAD);
        due(told("").holds(0), NONE);
        due(told("").holds(1), BAD);
        due(told("Fr1").holds(0), NONE);
        due(told("Fr1Mw90").holds(0), NONE);
        due(told("Fr1Mw90").holds(1), LATE);
    }

    private static void judge() {
        of(21);
        SkyTenders x = told("Fr2Fr2Mr92Mr95");
        int[] canBe = {1000, 1005, 1109, 2000, 2100, 2109, 3001, 3005, 3101, 4000, 4004,
            5000, 5109, 6004, 6010, 6099, 7002};
        int[] canNot = {1205, 1905, 1015, 1915, 2205, 2015, 3000, 3006, 3205, 3015, 4005, 4009, 4014, 4104,
            5001, 5009, 5100, 5010, 5119, 5209, 5900, 6003, 6000, 6104, 6199, 7001, 7003, 7012, 7102,
            0, 5, 999, 8000, 9000, 9999};
        for (int row : canBe) {
            due(x.judge(1, row), NONE);
        }
        for (int row : canNot) {
            due(x.judge(1, row), 0);
        }
        SkyTenders dear = told("Fr5Fr5Mr99");
        due(dear.judge(1, 6045), NONE);
        due(dear.judge(1, 6044), 0);
        due(dear.judge(1, 6054), NONE);
        due(told("Fr5").judge(1, 6099), 0);
        due(told("Fr5").judge(1, 5000), 0);
        due(told("Fr5").judge(1, 7000), NONE);
        due(told("").judge(1, 6000), NONE);
    }

    private static void judgeInARow() {
        of(21);
        SkyTenders x = told("Fr2Fr2Mr92Mr95");
        due(x.judge(2, 10095001), NONE);
        due(x.judge(2, 10095000), 1);
        due(x.judge(2, 50015001), 0);
        due(x.judge(2, 50001009), NONE);
        due(x.judge(2, 40005109), 1);
        due(x.judge(2, 40005100), NONE);
        due(x.judge(2, 20014000), NONE);
        due(x.judge(3, 200120016004L), 2);
        due(x.judge(3, 200120016010L), NONE);
        due(x.judge(4, 2001210160997002L), 2);
        due(x.judge(4, 2001210170009000L), 3);
        due(x.judge(4, 3005300530016010L), NONE);
        due(x.judge(4, 3005300531046024L), NONE);
        due(x.judge(4, 3005300531046009L), 3);
        // Nothing is changed.
        due(x.maker(0, 2), 2);
        due(x.maker(0, 1), 9);
        due(x.field(0, 1), 2);
        due(x.about(2), 1);
        due(x.about(6), 0);
        // What one of them changes is changed for those behind it alone, not for the next call.
        due(x.judge(1, 5000), NONE);
    }

    private static void judgeWrongly() {
        of(21);
        SkyTenders x = told("Fr2Fr2Mr92Mr95");
        due(x.judge(0, 0), BAD);
        due(x.judge(5, 0), BAD);
        due(x.judge(-1, 0), BAD);
        due(x.judge(HIGH, 0), BAD);
        due(x.judge(LOW, 0), BAD);
        due(x.judge(1, -1), BAD);
        due(x.judge(1, 10000), BAD);
        due(x.judge(2, 100000000L), BAD);
        due(x.judge(3, 1000000000000L), BAD);
        due(x.judge(4, 10000000000000000L), BAD);
        due(x.judge(4, Long.MAX_VALUE), BAD);
        due(x.judge(4, Long.MIN_VALUE), BAD);
        due(x.judge(4, 9999999999999999L), 0);
        // Fewer figures than four: the highest are 0, which is no doing.
        due(x.judge(2, 1005), 0);
        due(x.judge(4, 0), 0);
    }

    private static void dueShare(SkyTenders x, int maker, int above, int below) {
        due(x.share(maker, true), above);
        due(x.share(maker, false), below);
    }

    private static void share() {
        of(22);
        SkyTenders two = told("Fr1Fw1Mrw90Mw90");
        dueShare(two, 0, 3, 2);
        dueShare(two, 1, 1, 2);
        due(two.share(2, true), UNKNOWN);
        due(two.share(-1, false), UNKNOWN);
        due(two.share(HIGH, true), UNKNOWN);
        due(two.share(LOW, true), UNKNOWN);
        SkyTenders three = told("Fr1Mr91Mr91Mr91");
        dueShare(three, 2, 1, 3);
        SkyTenders four = told("Fr1Fw1Mrw90Mr90Mr90Mw90");
        dueShare(four, 0, 5, 6);
        dueShare(four, 1, 1, 3);
        dueShare(four, 2, 1, 3);
        dueShare(four, 3, 1, 2);
        SkyTenders like = told("Fr1Mr91Mr91Mr91Mr91");
        dueShare(like, 3, 1, 4);
        dueShare(told("Fr1Mr91Mw91"), 0, 1, 1);
        dueShare(told("Fr1Mr91Mw91"), 1, 0, 1);
        dueShare(told("Mr91"), 0, 0, 1);
        due(told("Fr1").share(0, true), UNKNOWN);
    }

    private static void see() {
        of(23);
        SkyTenders x = told("Fr1Fr1Mr91Mr93");
        due(x.see(0, 1, 1), 1);
        due(x.see(1, 9, 0), 2);
        due(x.see(2, 0, 0), UNKNOWN);
        due(x.see(-1, 0, 0), UNKNOWN);
        due(x.see(0, 2, 0), UNKNOWN);
        due(x.see(0, -1, 0), UNKNOWN);
        due(x.see(0, 8, 0), UNKNOWN);
        due(x.see(0, 10, 0), UNKNOWN);
        due(x.see(0, HIGH, 2), UNKNOWN);
        due(x.see(2, 0, 2), UNKNOWN);
        due(x.see(0, 0, 2), BAD);
        due(x.see(0, 0, -1), BAD);
        due(x.about(7), 2);
        due(x.see(0, 9, 0), 3);
        due(x.see(0, 1, 1), 4);
        due(x.see(1, 0, 0), 5);
        due(x.see(1, 1, 1), 6);
        due(x.see(1, 1, 1), FULL);
        due(x.see(1, 1, 2), BAD);
        due(x.see(2, 1, 1), UNKNOWN);
        due(x.about(7), 6);
        due(x.about(6), 0);
        due(told("").see(0, 9, 0), UNKNOWN);
        due(told("Fr1").see(0, 9, 1), 1);
        due(told("Fr1").see(0, 0, 1), UNKNOWN);
    }

    private static void unsee() {
        of(24);
        SkyTenders x = told("Fr1Mr91Mr93");
        due(x.unsee(), 0);
        for (int n = 1; n <= 6; n++) {
            x.see(0, 0, 1);
        }
        due(x.which(0), 18 - 7);
        x.see(0, 1, 1);
        due(x.unsee(), 6);
        due(x.about(7), 0);
        due(x.unsee(), 0);
        due(x.which(0), 18);
        due(x.see(0, 1, 1), 1);
        due(x.which(0), 7);
    }

    private static void which() {
        of(25);
        SkyTenders x = told("Fr1Mr91Mr93");
        due(x.which(0), 18);
        due(x.which(1), 0);
        x.see(0, 1, 1);
        // Maker 0 for 4 .. 9 (for 3 it is the less one of like ones), or maker 1 for 0.
        due(x.which(0), 7);
        due(x.which(1), 4);
        due(x.which(2), BAD);
        due(x.which(-1), BAD);
        due(x.which(HIGH), BAD);
        x.see(0, 0, 0);
        due(x.which(0), 7);
        x.reprice(0, 0);
        due(x.which(0), 6);
        due(x.which(1), 4);
        x.reprice(0, 3);
        due(x.which(0), 6 + 3);
        x.reprice(0, 9);
        x.reprice(1, 9);
        // Maker 0 has no dearer price to have had; maker 1 may have had any other.
        due(x.which(0), 9);
        due(x.which(1), 10);
        x.see(0, 0, 1);
        due(x.which(0), 0);
        due(x.which(1), NONE);
        due(x.maker(0, 2), 9);
        due(x.about(6), 4);
        // No supply: what was not is so, what was is not.
        SkyTenders y = told("Fr1Mr01");
        y.see(0, 0, 0);
        y.see(0, 9, 0);
        due(y.which(0), 9);
        due(y.which(1), 0);
        y.see(0, 0, 1);
        due(y.which(0), 0);
        due(y.which(1), NONE);
        // Without makers there is none that had another price.
        SkyTenders z = told("Fr1");
        due(z.which(0), 0);
        due(z.which(1), NONE);
        // Second-hand is seen: any price but 0, at which the maker itself is the less figure.
        SkyTenders s = told("Fr1Fr1Mr95");
        s.see(1, 9, 1);
        due(s.which(0), 8);
        due(s.which(1), 1);
    }

    private static void whichOfWhatIsNoMore() {
        of(25);
        SkyTenders x = told("Fr1Fr1Mr91Mr93");
        x.see(1, 0, 0);
        type(x, "Fr1Mr91");
        x.tender();
        // Field 1 is no more, so it was not served: as seen.
        due(x.which(0), 9);
        SkyTenders y = told("Fr1Fr1Mr91Mr93");
        y.see(1, 9, 1);
        due(y.which(0), 9 - 1 + 9 - 1);
        type(y, "Fr1Mr91");
        y.tender();
        due(y.about(7), 1);
        due(y.which(0), 0);
        due(y.which(1), NONE);
        SkyTenders z = told("Fr1Mr91Mr93");
        z.see(0, 1, 0);
        type(z, "Fr1Mr91");
        z.tender();
        due(z.which(0), 9);
        z.unsee();
        type(z, "Fr1Mr91Mr93");
        z.tender();
        z.keep(0);
        z.see(0, 1, 1);
        due(z.which(0), 7);
        type(z, "Fr1Mr91");
        z.tender();
        due(z.which(0), 0);
        // The field and the maker are there again, and so is what was seen of them.
        type(z, "Fr1Mr91Mr93");
        z.tender();
        due(z.which(0), 7);
    }

    private static void dueGone(SkyTenders x, int tenths, int above, int below) {
        due(x.gone(tenths, true), above);
        due(x.gone(tenths, false), below);
    }

    private static void gone() {
        of(26);
        SkyTenders one = told("Fr1Mr91");
        dueGone(one, 3, 7, 10);
        dueGone(one, 0, 1, 1);
        dueGone(one, 5, 1, 2);
        dueGone(one, 10, 0, 1);
        due(one.gone(-1, true), BAD);
        due(one.gone(11, false), BAD);
        due(one.gone(LOW, true), BAD);
        due(one.gone(HIGH, true), BAD);
        SkyTenders two = told("Fr1Mr91Mr91");
        dueGone(two, 5, 3, 4);
        dueGone(two, 4, 21, 25);
        SkyTenders both = told("Fr1Fw1Mr91Mw91");
        dueGone(both, 4, 9, 25);
        SkyTenders four = told("Fr1Mr91Mr91Mr91Mr91");
        dueGone(four, 1, 9999, 10000);
        dueGone(four, 9, 3439, 10000);
        dueGone(told("Fr1Mw91"), 3, 0, 1);
        dueGone(told("Mw91"), 10, 1, 1);
        dueGone(told(""), 10, 1, 1);
        dueGone(told("Fr1"), 0, 0, 1);
    }

    private static void seed() {
        of(27);
        SkyTenders x = new SkyTenders();
        due(x.seed(Long.MIN_VALUE), 0);
        due(x.seed(Long.MAX_VALUE), Long.MIN_VALUE);
        due(x.seed(-1), Long.MAX_VALUE);
        due(x.seed(0), -1);
        due(x.seed(0), 0);
        due(x.about(6), 0);
    }

    private static void drawn() {
        of(28);
        // These prices and seeds were reckoned apart from the program, with whole numbers of any size.
        SkyTenders x = told("Fr1Mr95");
        due(x.drawn(1), FIRST_PRICES[0]);
        due(x.seed(0), 1442695040888963407L);
        due(x.drawn(2), FIRST_PRICES[0] + FIRST_PRICES[1]);
        due(x.drawn(3), FIRST_PRICES[2] + FIRST_PRICES[3] + FIRST_PRICES[4]);
        due(x.maker(0, 2), 5);
        due(x.about(6), 0);
        due(x.drawn(0), BAD);
        due(x.drawn(21), BAD);
        due(x.drawn(-1), BAD);
        due(x.drawn(LOW), BAD);
        due(x.seed(-1), AFTER_FIVE);
        // A seed below 0, and an x whose highest bit is set: the upper bits are no sign.
        due(x.drawn(1), PRICE_AFTER_MINUS_ONE);
        due(x.seed(0), STEP_AFTER_MINUS_ONE);
        // Two makers: each time the first price is maker 0's.
        SkyTenders two = told("Fr1Fw1Mr95Mw95");
        two.want(1, 5);
        due(two.drawn(2), FIRST_PRICES[0] + 5 * FIRST_PRICES[1] + FIRST_PRICES[2] + 5 * FIRST_PRICES[3]);
        // No supply costs 0, but the seed goes on.
        SkyTenders none = told("Fr1Mw95");
        due(none.drawn(5), 0);
        due(none.seed(0), AFTER_FIVE);
        // Without makers it stays; without fields it goes on.
        SkyTenders empty = told("Fr1");
        due(empty.drawn(20), 0);
        due(empty.seed(0), 0);
        SkyTenders fieldless = told("Mr11");
        due(fieldless.drawn(1), 0);
        due(fieldless.seed(0), 1442695040888963407L);
    }

    private static void keep() {
        of(29);
        SkyTenders x = told("Fr1Mr91Mr93");
        due(x.keep(0), 2);
        due(x.keep(2), UNKNOWN);
        due(x.keep(-1), UNKNOWN);
        due(x.keep(LOW), UNKNOWN);
        due(x.keep(HIGH), UNKNOWN);
        due(x.again(1), LATE);
        x.reprice(0, 7);
        due(x.keep(1), 2);
        // Doings stay when one keeps.
        due(x.about(6), 1);
        due(x.undo(), 0);
        due(x.maker(0, 2), 1);
        due(x.again(1), 2);
        due(x.maker(0, 2), 7);
        due(x.again(0), 2);
        due(x.maker(0, 2), 1);
        // Kept over what was kept.
        x.reprice(0, 5);
        due(x.keep(0), 2);
        x.reprice(0, 6);
        due(x.again(0), 2);
        due(x.maker(0, 2), 5);
        due(new SkyTenders().keep(1), 0);
    }

    private static void again() {
        of(30);
        SkyTenders x = told("Fr1Fs4Mr91Ms93");
        due(x.again(0), LATE);
        due(x.again(2), UNKNOWN);
        due(x.again(-1), UNKNOWN);
        due(x.again(LOW), UNKNOWN);
        x.bear(3);
        x.keep(1);
        x.bear(0);
        x.reprice(0, 8);
        x.restock(1, 2);
        x.want(0, 5);
        x.see(1, 1, 1);
        x.seed(9);
        x.write('F');
        due(x.again(0), LATE);
        due(x.about(6), 5);
        due(x.again(1), 2);
        due(x.about(2), 3);
        due(x.maker(0, 2), 1);
        due(x.maker(1, 1), 9);
        due(x.field(0, 1), 1);
        due(x.field(1, 0), 2);
        due(x.about(6), 0);
        due(x.undo(), LATE);
        due(x.about(7), 1);
        due(x.about(8), 15);
        due(x.seed(0), 9);
        // What is changed now is not changed in the slot.
        x.reprice(0, 8);
        due(x.again(1), 2);
        due(x.maker(0, 2), 1);
        type(x, "");
        x.tender();
        due(x.again(1), LATE);
        due(x.keep(1), 0);
        due(x.again(1), 0);
    }

    private static void refusalsChangeNothing() {
        of(30);
        SkyTenders x = told("Fr2Mr92");
        x.see(0, 0, 1);
        x.bear(2);
        x.seed(4);
        x.write(300);
        x.bear(9);
        x.reprice(4, 1);
        x.restock(0, 10);
        x.want(0, 6);
        x.see(0, 3, 1);
        x.drawn(0);
        x.keep(5);
        x.again(5);
        x.judge(9, 0);
        due(x.about(2), 2);
        due(x.about(6), 1);
        due(x.about(7), 1);
        due(x.about(8), 7);
        due(x.about(3), 4);
        due(x.seed(0), 4);
        due(x.again(0), LATE);
    }

    private static final int[] FIRST_PRICES = {7, 4, 7, 6, 5};
    private static final long AFTER_FIVE = 7076646890315895283L;
    private static final int PRICE_AFTER_MINUS_ONE = 8;
    private static final long STEP_AFTER_MINUS_ONE = -4921441182957829598L;
}
