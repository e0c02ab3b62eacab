/** Boundaries of part 1 of the terms: fields, makers, the text and its fault, supplies, doings. */
final class TenderBoundaries extends Sentences {
    private static final String[] WEATHERS = {"r", "w", "rw", "s", "rs", "ws", "rws"};

    static void all() {
        life();
        fieldsAndUnits();
        makersStocksPrices();
        sixtyLetters();
        partsInAnyRow();
        fieldPart();
        makerPart();
        rowsOfWeathers();
        blanks();
        firstLetterOfAFault();
        lengthSetAside();
        notAtItsEnd();
        atFirst();
        patience();
        makersOfTheWeather();
        secondHandUnits();
        secondHandWeather();
        secondHandByWhomsoever();
        stocks();
        smellsByPatience();
        costs();
        figuresOfASupply();
        likeSupplies();
        noSupply();
        withoutFields();
        fourteenDoings();
    }

    private static void life() {
        says(TERMS, "An object is used for at most 512 calls after it has been made; what later calls answer is free.");
        SkyTenders x = new SkyTenders();
        int calls = 0;
        for (char letter : "Fr1Mr95".toCharArray()) {
            calls++;
            due(x.write(letter), calls);
        }
        due(x.tender(), 1);
        calls++;
        int was = 5;
        while (calls < 510) {
            calls++;
            due(x.reprice(0, calls % 7), was);
            was = calls % 7;
        }
        due(x.about(6), 14);
        // The 512th.
        due(x.about(3), was);
    }

    private static void fieldsAndUnits() {
        says(TERMS, "(4 at most) in a row, each wants a WEATHER (0 RAIN, 1 WIND, 2 SUN) of so many UNITS (1 .. 5).");
        SkyTenders x = told("Fs1Fw5Fr4Fs3");
        due(x.about(0), 4);
        int[][] fields = {{2, 1}, {1, 5}, {0, 4}, {2, 3}};
        for (int f = 0; f < 4; f++) {
            due(x.field(f, 0), fields[f][0]);
            due(x.field(f, 1), fields[f][1]);
        }
        due(x.field(4, 0), UNKNOWN);
        type(x, "Fs1Fw5Fr4Fs3Fr1");
        due(x.tender(), LATE);
        for (int n = 0; n <= 9; n++) {
            due(faultOf("Fw" + n), n >= 1 && n <= 5 ? NONE : 2);
        }
        for (int n = 1; n <= 5; n++) {
            due(told("Fw" + n).field(0, 1), n);
            due(x.want(1, n), n == 1 ? 5 : n - 1);
            due(x.field(1, 1), n);
        }
        due(x.want(1, 0), BAD);
        due(x.want(1, 6), BAD);
        due(x.field(1, 1), 5);
    }

    private static void makersStocksPrices() {
        says(TERMS, "MAKERS are 0, 1, .. (4 at most), each with WEATHERS that it makes, a STOCK (0 .. 9) of UNITS,"
                + " a PRICE (0 .. 9) of a UNIT.");
        SkyTenders x = told("Mr01Mw10Ms99Mrws00");
        int[][] makers = {{1, 0, 1}, {2, 1, 0}, {4, 9, 9}, {7, 0, 0}};
        due(x.about(1), 4);
        for (int m = 0; m < 4; m++) {
            for (int what = 0; what < 3; what++) {
                due(x.maker(m, what), makers[m][what]);
            }
        }
        due(x.maker(4, 0), UNKNOWN);
        type(x, "Mr01Mw10Ms99Mrws00Mr11");
        due(x.tender(), LATE);
        due(x.about(1), 4);
        for (int q = 0; q <= 9; q++) {
            for (int p = 0; p <= 9; p++) {
                SkyTenders y = told("Mr" + q + p);
                due(y.maker(0, 1), q);
                due(y.maker(0, 2), p);
            }
        }
    }

    private static void sixtyLetters() {
        says(TERMS, "THE TEXT is letters (60 at most).");
        SkyTenders x = new SkyTenders();
        for (int n = 1; n <= 60; n++) {
            due(x.write('x'), n);
        }
        due(x.write('x'), FULL);
        due(x.about(8), 60);
    }

    private static void partsInAnyRow() {
        says(TERMS, "A TENDER is a TEXT: PARTS, none or more, in any row, each kind numbered as it is told:");
        due(faultOf(""), NONE);
        due(told("").about(0), 0);
        due(told("").about(1), 0);
        String[] rows = {"Fs3Fr1Mr12Mw34", "Mr12Mw34Fs3Fr1", "Mr12Fs3Mw34Fr1", "Fs3Mr12Fr1Mw34", "Fs3Mr12Mw34Fr1"};
        for (String row : rows) {
            SkyTenders x = told(row);
            due(x.about(0), 2);
            due(x.about(1), 2);
            due(x.field(0, 0), 2);
            due(x.field(0, 1), 3);
            due(x.field(1, 0), 0);
            due(x.field(1, 1), 1);
            due(x.maker(0, 1), 1);
            due(x.maker(0, 2), 2);
            due(x.maker(1, 1), 3);
            due(x.maker(1, 2), 4);
        }
        // Fields alone, makers alone.
        due(told("Fs3").about(1), 0);
        due(told("Ms33").about(0), 0);
    }

    private static void fieldPart() {
        says(TERMS, "F w n a FIELD: w a letter r, w, s (RAIN, WIND, SUN), n a figure (1 .. 5)");
        for (char letter = 0; letter < 256; letter++) {
            due(faultOf("F" + letter + "2"), "rws".indexOf(letter) >= 0 ? NONE : 1);
            due(faultOf("Fw" + letter), "12345".indexOf(letter) >= 0 ? NONE : 2);
        }
        due(told("Fr1").field(0, 0), 0);
        due(told("Fw1").field(0, 0), 1);
        due(told("Fs1").field(0, 0), 2);
    }

    private static void makerPart() {
        says(TERMS, "M w.. q p a MAKER: letters of WEATHERS (one or more, each once, in the row r, w, s),"
                + " figures of STOCK, PRICE");
        for (char letter = 0; letter < 256; letter++) {
            boolean figure = "0123456789".indexOf(letter) >= 0;
            due(faultOf("M" + letter + "23"), "rws".indexOf(letter) >= 0 ? NONE : 1);
            due(faultOf("Ms" + letter + "3"), figure ? NONE : 2);
            due(faultOf("Ms2" + letter), figure ? NONE : 3);
        }
        for (int bits = 1; bits <= 7; bits++) {
            due(told("M" + WEATHERS[bits - 1] + "23").maker(0, 0), bits);
        }
    }

    /** All rows of one to four letters: the first one that does not come behind its forerunner is the fault. */
    private static void rowsOfWeathers() {
        says(TERMS, "(one or more, each once, in the row r, w, s)");
        due(faultOf("M23"), 1);
        for (int count = 1; count <= 4; count++) {
            for (int code = 0; code < Math.pow(3, count); code++) {
                StringBuilder text = new StringBuilder("M");
                int fault = NONE;
                int last = -1;
                for (int i = 0, rest = code; i < count; i++, rest /= 3) {
                    if (rest % 3 <= last && fault == NONE) {
                        fault = text.length();
                    }
                    last = rest % 3;
                    text.append("rws".charAt(last));
                }
                due(faultOf(text + "23"), fault);
            }
        }
    }

    private static void blanks() {
        says(TERMS, "(without blanks.)");
        String text = "Fr2Mrw93";
        for (int place = 0; place <= text.length(); place++) {
            due(faultOf(text.substring(0, place) + " " + text.substring(place)), place);
        }
    }

    private static void firstLetterOfAFault() {
        says(TERMS, "FAULT: the place of the first letter by which THE TEXT can be no TENDER, whatever came behind it");
        // At each place of a tender an x, behind which all may be fine, wrong, or nothing at all.
        String text = "Fr2Mrw93Fs5Ms00";
        for (int place = 0; place < text.length(); place++) {
            String ahead = text.substring(0, place) + "x";
            due(faultOf(ahead), place);
            due(faultOf(ahead + text.substring(place)), place);
            due(faultOf(ahead + text.substring(place + 1)), place);
            due(faultOf(ahead + "xFr1"), place);
        }
        due(faultOf("Fr6Fr0"), 2);
        due(faultOf("xx"), 0);
    }

    private static void lengthSetAside() {
        says(TERMS, "(its length set aside; so a fifth F or M where there are four)");
        String fields = times(4, "Fr1");
        String makers = times(4, "Mrws11");
        due(faultOf(fields + "F"), 12);
        due(faultOf(fields + "Fr1"), 12);
        due(faultOf(fields + "M"), 13);
        due(faultOf(makers + "M"), 24);
        due(faultOf(makers + "Mr11"), 24);
        due(faultOf(makers + "F"), 25);
        due(faultOf(fields + makers + "F"), 36);
        due(faultOf(fields + makers + "M"), 36);
        // A fourth one of a kind is none yet, and the other kind's count is its own.
        due(faultOf(times(3, "Fr1") + makers + "F"), 34);
        due(faultOf(fields + times(3, "Mrws11") + "M"), 31);
        // The room of 60 letters, full to the last, is no fault of its own.
        due(faultOf(fields + makers + times(24, "F")), 36);
        due(faultOf(times(60, "F")), 1);
        due(faultOf(times(60, "x")), 0);
    }

    private static void notAtItsEnd() {
        says(TERMS, "its length, if it is only not at its end; NONE: none.");
        String text = "Fr2Mrws93Fs5Ms00";
        String ends = " 0 3 9 12 16 ";
        for (int length = 0; length <= text.length(); length++) {
            due(faultOf(text.substring(0, length)), ends.contains(" " + length + " ") ? NONE : length);
        }
    }

    private static void atFirst() {
        says(TERMS, "At first there are no FIELDS, no MAKERS.");
        SkyTenders x = new SkyTenders();
        due(x.about(0), 0);
        due(x.about(1), 0);
        due(x.field(0, 0), UNKNOWN);
        due(x.maker(0, 0), UNKNOWN);
    }

    private static void patience() {
        says(TERMS, "PATIENCE is 0 .. 4, 1 at first.");
        SkyTenders x = new SkyTenders();
        due(x.about(2), 1);
        int was = 1;
        for (int v = 0; v <= 4; v++) {
            due(x.bear(v), was);
            due(x.about(2), v);
            was = v;
        }
        due(x.bear(-1), BAD);
        due(x.bear(5), BAD);
        due(x.about(2), 4);
    }

    private static void makersOfTheWeather() {
        says(TERMS, "A SUPPLY tells of each FIELD by whom it is served: by a MAKER that makes its WEATHER,");
        for (int bits = 1; bits <= 7; bits++) {
            for (int w = 0; w < 3; w++) {
                SkyTenders x = told("F" + "rws".charAt(w) + "1M" + WEATHERS[bits - 1] + "92");
                due(x.cost(0), (bits >> w & 1) == 1 ? 2 : NONE);
                due(x.best(), (bits >> w & 1) == 1 ? 0 : NONE);
                // There is no maker 1 .. 8, and no field ahead.
                for (int by = 1; by <= 9; by++) {
                    due(x.cost(by), NONE);
                }
            }
        }
    }

    private static void secondHandUnits() {
        says(TERMS, "or SECOND-HAND, from the FIELD ahead, if that wants the same WEATHER, and no fewer UNITS");
        for (int ahead = 1; ahead <= 5; ahead++) {
            for (int behind = 1; behind <= 5; behind++) {
                SkyTenders x = told("Fr" + ahead + "Fr" + behind + "Mr91Mr91");
                due(x.cost(9), behind <= ahead ? ahead : NONE);
                due(x.best(), behind <= ahead ? 9 : ahead + behind <= 9 ? 0 : 1);
                // Nobody is ahead of field 0.
                due(x.cost(90), NONE);
                due(x.cost(99), NONE);
            }
        }
    }

    private static void secondHandWeather() {
        says(TERMS, "from the FIELD ahead, if that wants the same WEATHER");
        for (char ahead : "rws".toCharArray()) {
            for (char behind : "rws".toCharArray()) {
                due(told("F" + ahead + "2F" + behind + "2Mrws91").cost(9), ahead == behind ? 2 : NONE);
            }
        }
        // The one that is just ahead, not one farther ahead, nor one behind.
        due(told("Fr2Fw2Fr2Mrw91").cost(9), NONE);
        due(told("Fr2Fr2Fw2Mrw91").cost(9), NONE);
        due(told("Fr2Fr2Fw2Mrw91").cost(90), 4);
        due(told("Fr2Fr2Fw2Mrw91").cost(900), NONE);
    }

    private static void secondHandByWhomsoever() {
        says(TERMS, "(it is served, too, by whomsoever)");
        SkyTenders x = told("Fr2Fr2Fr2Fr2Mr91Mr92");
        x.bear(3);
        due(x.cost(999), 2);
        due(x.cost(1999), 4);
        due(x.cost(1909), 6);
        due(x.cost(919), 6);
        due(x.cost(990), 4);
        // By a field that is itself second-hand, fewer and fewer units.
        SkyTenders y = told("Fr4Fr3Fr2Fr1Mr41");
        y.bear(3);
        due(y.best(), 999);
        y.want(2, 1);
        due(y.cost(999), 4);
        y.want(3, 2);
        due(y.cost(999), NONE);
    }

    private static void stocks() {
        says(TERMS, "All FIELDS that a MAKER serves have no more UNITS together than its STOCK;");
        for (int units = 1; units <= 5; units++) {
            for (int stock = 0; stock <= 9; stock++) {
                due(told("Fs" + units + "Ms" + stock + "1").cost(0), units <= stock ? units : NONE);
                due(told("Fs" + units + "Fw2Mws" + stock + "1").cost(0), units + 2 <= stock ? units + 2 : NONE);
            }
        }
        // Second-hand takes none of it; the stock of another maker is its own.
        due(told("Fr5Fr5Mr51").cost(9), 5);
        due(told("Fr5Fr5Mr51Mr51").cost(1), 10);
        due(told("Fr5Fr5Mr51Mr51").cost(11), NONE);
        due(told("Fr5Fr4Mr91").cost(0), 9);
        due(told("Fr5Fr5Mr91").cost(0), NONE);
        due(told("Fr3Fw3Fs2Fr1Mrws91").cost(0), 9);
        due(told("Fr3Fw3Fs3Fr1Mrws91").cost(0), NONE);
    }

    private static void smellsByPatience() {
        says(TERMS, "no more FIELDS are SECOND-HAND than PATIENCE.");
        SkyTenders x = told("Fr1Fr1Fr1Fr1Mr92");
        for (int v = 0; v <= 4; v++) {
            x.bear(v);
            due(x.cost(0), 8);
            due(x.cost(9), v >= 1 ? 6 : NONE);
            due(x.cost(909), v >= 2 ? 4 : NONE);
            due(x.cost(999), v >= 3 ? 2 : NONE);
            int[] best = {0, 9, 99, 999, 999};
            due(x.best(), best[v]);
        }
    }

    private static void costs() {
        says(TERMS, "It costs UNITS times PRICE of all FIELDS that MAKERS serve, together; SECOND-HAND costs nothing.");
        due(told("Fr5Fr5Fr5Fr5Mr99Mr99Mr99Mr99").cost(123), 180);
        due(told("Fr5Fw5Fs5Fr5Mrws90Mrws90Mrws90Mrws90").cost(123), 0);
        due(told("Fr1Fr2Fr3Fr1Mr91Mr92Mr93").cost(121), 1 + 4 + 9 + 2);
        SkyTenders x = told("Fr1Fr2Fr3Fr1Mr91Mr92Mr93");
        due(x.cost(129), 1 + 4 + 9);
        due(x.about(3), 6);
        due(told("Fr5Fw5Fs5Fr5Mr99Mw99Ms99Mr99").about(3), 180);
    }

    private static void figuresOfASupply() {
        says(TERMS, "It is told as figures, FIELD 0 first: the MAKER, 9 for SECOND-HAND.");
        due(told("Fr2Fr1Fw1Mw91Mr91").best(), 190);
        due(told("Fr2Fr1Fw1Mw91Mr91").cost(190), 3);
        due(told("Fr2Fw1Mr91Mw91").best(), 1);
        due(told("Fr2Fw1Fs1Fr3Mr51Mw91Ms91").best(), 120);
        due(told("Fs1Fs1Fs1Fs1Mr91Mr91Mr91Ms91").best(), 3339);
    }

    private static void likeSupplies() {
        says(TERMS, "BEST is this SUPPLY (of like ones the least as figures);");
        due(told(times(4, "Fr1") + times(4, "Mr90")).best(), 0);
        due(told(times(4, "Fr1") + times(4, "Mr20")).best(), 11);
        due(told(times(4, "Fw1") + times(4, "Mw10")).best(), 123);
        due(told(times(4, "Fs1") + times(4, "Ms11")).best(), 129);
        // Second-hand is figure 9: behind every maker that serves for nothing.
        due(told("Fr1Fr1Mr00Mr00Mr00Mr20").best(), 33);
        // A dearer first figure is no gain, however small it is.
        due(told("Fr1Mr92Mr91Mr91").best(), 1);
        due(told("Fr1Fw1Mr92Mrw91Mr91").best(), 11);
    }

    private static void noSupply() {
        says(TERMS, "NONE: there is no SUPPLY.");
        due(told("Fr1").about(3), NONE);
        due(told("Fr1").best(), NONE);
        due(told("Fr1Mw99").about(3), NONE);
        due(told("Fr1Mr09").best(), NONE);
        due(told("Fr2Mr19").best(), NONE);
        due(told("Fr2Mr29").about(3), 18);
        // One field that none can serve is enough.
        due(told("Fr1Fr1Fr1Fs1Mrw90").best(), NONE);
        due(told("Fs1Fr1Fr1Fr1Mrw90").best(), NONE);
    }

    private static void withoutFields() {
        says(TERMS, "(Without FIELDS there is one, of no figures, that costs 0.)");
        for (String text : new String[] {"", "Mr99", "Mr00Mw00Ms00Mrws00"}) {
            SkyTenders x = told(text);
            due(x.best(), 0);
            due(x.about(3), 0);
            due(x.cost(0), 0);
            due(x.least(0), 0);
            due(x.about(4), 0);
        }
    }

    private static void fourteenDoings() {
        says(TERMS, "are a row (14 at most; when it is full, the first one is forgotten); the last one can be undone.");
        SkyTenders x = told("Fr1Mr95");
        // Doing n makes the price n % 10; before doing 1 it is 5.
        for (int n = 1; n <= 13; n++) {
            x.reprice(0, n % 10);
        }
        due(x.about(6), 13);
        x.reprice(0, 14 % 10);
        due(x.about(6), 14);
        SkyTenders full = told("Fr1Mr95");
        for (int n = 1; n <= 14; n++) {
            full.reprice(0, n % 10);
        }
        // Full, but none forgotten yet: all the way back.
        dueBack(full, 5);
        x.reprice(0, 15 % 10);
        due(x.about(6), 14);
        dueBack(x, 1);
        SkyTenders y = told("Fr1Mr95");
        for (int n = 1; n <= 40; n++) {
            due(y.reprice(0, n % 10), n == 1 ? 5 : (n - 1) % 10);
            due(y.about(6), Math.min(n, 14));
        }
        dueBack(y, 26 % 10);
        // One of another kind, of another maker, is forgotten, and the others are undone as they were done.
        SkyTenders z = told("Fr1Fr2Mr95Mr71");
        z.restock(1, 0);
        z.reprice(1, 9);
        for (int n = 1; n <= 4; n++) {
            z.bear(n);
            z.want(1, n + 1);
            z.restock(0, n);
        }
        due(z.about(6), 14);
        z.want(0, 5);
        dueBack(z, 5);
        due(z.maker(1, 1), 0);
        due(z.maker(1, 2), 1);
        due(z.maker(0, 1), 9);
        due(z.field(0, 1), 1);
        due(z.field(1, 1), 2);
        due(z.about(2), 1);
    }

    private static void dueBack(SkyTenders x, int price) {
        for (int left = 13; left >= 0; left--) {
            due(x.undo(), left);
            due(x.about(6), left);
        }
        due(x.undo(), LATE);
        due(x.maker(0, 2), price);
    }
}
