import java.math.BigInteger;

/** Promises 46 to 56, sentence by sentence, with term V: years to come, notes, changes, frost. */
public final class YearEdgeTest {
    private static final String HEAD = "town coin 10 purse 100 tax 20 trust 5 frost 30;";
    private static final String PLAIN = "town coin 1 purse 0 tax 0 trust 5 frost 0;";
    private static final int[] FAR = {-1, -2, Integer.MIN_VALUE, Integer.MAX_VALUE};
    private static final long NO_REST = -4000000000000000000L;

    public static void main(String[] args) {
        sundaysNone();
        sundaysAll();
        sundaysFromNow();
        sundaysOfAnotherTown();
        brokeFirst();
        brokeNone();
        hearsWards();
        hearsNoneSuch();
        clearAtOnce();
        clearLater();
        clearNever();
        clearYearTwenty();
        restYears();
        restPassed();
        restDebtTakenOff();
        trustYears();
        ringsAnywhere();
        noteHangs();
        noteNoSuch();
        changesNone();
        changesBeside();
        changesOneOfEachNote();
        changesOfTen();
        frostDrawsByNumbers();
        frostBelow();
        frostThatRing();
        frostAheadOfPassing();
        frostFromNow();
        drawnSeeds();
        drawnNoSuch();
        drawnCracked();
        wintersBounds();
        wintersSeeds();
        wintersNoDebt();
        askingChangesNothing();
        Check.end();
    }

    private static void pass(BellMoney x, int years) {
        for (int i = 0; i < years; i++) {
            x.passes();
        }
    }

    private static void sundaysNone() {
        Check.same("46: no town", new BellMoney().sundays(), -2);
        Check.same("46: one misses it", Tell.town(LookEdgeTest.bells(HEAD, 5) + "ward 0;peal 1;").sundays(), 0);
        Check.same("46: one of two misses it", Tell.town(HEAD + "tower holds 9;tower holds 9;bell 1 tin 0 note 0 in 0;"
                + "ward 0;ward 1;peal 0;").sundays(), 0);
    }

    private static void sundaysAll() {
        Check.same("46: no ward", Tell.town(LookEdgeTest.bells(HEAD, 5) + "peal 1;").sundays(), 20);
        Check.same("46: no peal", Tell.town(LookEdgeTest.bells(HEAD, 5) + "ward 0;").sundays(), 20);
        Check.same("46: none misses it", Tell.town(LookEdgeTest.bells(HEAD, 5) + "ward 0;peal 0;").sundays(), 20);
    }

    private static void sundaysFromNow() {
        BellMoney x = Tell.town(LookEdgeTest.bells(HEAD, 5) + "ward 0;peal 0;");
        for (int year = 0; year <= 20; year++) {
            Check.same("46: from year " + year, x.sundays(), 20 - year);
            x.passes();
        }
    }

    /** Another town, of the same bells: what was foretold for the one is not so for the other. */
    private static void sundaysOfAnotherTown() {
        BellMoney x = Tell.town(LookEdgeTest.bells(HEAD, 5) + "ward 0;peal 0;");
        Check.same("46: none misses it", x.sundays(), 20);
        Tell.town(x, LookEdgeTest.bells(HEAD, 5) + "ward 0;peal 1;");
        Check.same("46: one misses it", x.sundays(), 0);
        Tell.town(x, LookEdgeTest.bells(HEAD, 5) + "ward 0;peal 0;");
        Check.same("46: none misses it", x.sundays(), 20);
    }

    private static void brokeFirst() {
        Check.same("47: the first year", Tell.town(PLAIN + "due 1 in 0;").broke(), 0);
        // at a trust of 9 a price of 2 is 1
        Check.same("47: the last year", Tell.town(PLAIN + "due 2 in 19;").broke(), 19);
        Check.same("47: the earlier one", Tell.town(PLAIN + "due 5 in 9;due 5 in 3;").broke(), 3);
        BellMoney x = Tell.town(PLAIN + "due 5 in 3;");
        pass(x, 3);
        Check.same("47: the one now", x.broke(), 3);
        x.passes();
        Check.same("47: its debt", x.broke(), 4);
    }

    private static void brokeNone() {
        Check.same("47: no town", new BellMoney().broke(), -2);
        Check.same("47: nothing due", Tell.town(PLAIN).broke(), -1);
        Check.same("47: just paid", Tell.town("town coin 1 purse 5 tax 0 trust 5 frost 0;due 5 in 0;").broke(), -1);
        Check.same("47: not just", Tell.town("town coin 1 purse 4 tax 0 trust 5 frost 0;due 5 in 0;").broke(), 0);
        BellMoney x = Tell.town(PLAIN + "due 5 in 0;");
        pass(x, 20);
        Check.yes("47: debt", x.now(4) > 0);
        Check.same("47: no year comes", x.broke(), -1);
    }

    private static void hearsWards() {
        BellMoney x = Tell.town(PLAIN + "tower holds 9;tower holds 9;tower holds 9;bell 1 tin 0 note 0 in 0;"
                + "bell 1 tin 0 note 0 in 1;bell 1 tin 0 note 0 in 2;bell 1 tin 0 note 0 in 0 cracked;"
                + "ward 0;ward 1;ward 0 1;ward 0;");
        Check.same("48: three wards", x.hears(0), 13);
        Check.same("48: two wards", x.hears(1), 6);
        Check.same("48: none", x.hears(2), 0);
        Check.same("48: cracked", x.hears(3), 0);
        x.melt(1);
        Check.same("48: hangs no more", x.hears(1), 0);
        x.cracks(0);
        Check.same("48: cracked now", x.hears(0), 0);
        x.undo();
        Check.same("48: rings again", x.hears(0), 13);
        x = Tell.town(LookEdgeTest.FULL);
        x.cast(1, 0, 11, 3);
        Check.same("48: all wards", x.hears(8), 15);
    }

    private static void hearsNoneSuch() {
        BellMoney x = Tell.town(LookEdgeTest.FULL);
        Check.same("48: the last", x.hears(7), 15);
        Check.same("48: a ninth", x.hears(8), -2);
        for (int far : FAR) {
            Check.same("48: bell " + far, x.hears(far), -2);
        }
        Check.same("48: a town without bells", Tell.town(PLAIN).hears(0), -2);
    }

    private static void clearAtOnce() {
        Check.same("49: nothing due", Tell.town(PLAIN).clear(), 0);
        BellMoney x = Tell.town(PLAIN);
        for (int year = 0; year < 20; year++) {
            Check.same("49: the one now", x.clear(), year);
            x.passes();
        }
    }

    private static void clearLater() {
        // 2 are not paid in year 0: 4 of debt, paid in year 1 of 1 and 7
        Check.same("49: behind year 1", Tell.town("town coin 1 purse 0 tax 7 trust 5 frost 0;due 6 in 0;due 2 in 0;").clear(), 1);
        BellMoney x = Tell.town("town coin 1 purse 0 tax 10 trust 9 frost 0;due 100 in 5;due 1 in 6;");
        // 60 are asked in year 5, and 60 are there
        Check.same("49: all paid", x.clear(), 0);
        x.raise(0, 102);
        // 61 are asked of 60: 122 of debt, 73 by its price, of 70; 146, 87 by its price, of 80; and so on
        Check.same("49: debt grows faster", x.clear(), -1);
        x = Tell.town("town coin 1 purse 0 tax 10 trust 9 frost 0;due 83 in 5;due 17 in 5;due 5 in 5;");
        // 49, 10 and 3 are asked of 60: 6 of debt behind year 5, paid in year 6
        Check.same("49: behind year 6", x.clear(), 6);
        Check.same("49: though there was none ahead of 5", x.rest(4), 50);
        pass(x, 6);
        Check.same("49: debt now, none behind this year", x.clear(), 6);
    }

    private static void clearNever() {
        Check.same("49: no town", new BellMoney().clear(), -2);
        Check.same("49: never paid", Tell.town(PLAIN + "due 5 in 0;").clear(), -1);
        Check.same("49: the last year", Tell.town(PLAIN + "due 5 in 19;").clear(), -1);
        BellMoney x = Tell.town("town coin 1 purse 0 tax 1 trust 9 frost 0;due 33 in 18;due 4 in 18;due 1 in 19;");
        // 19 and 2 are asked of 19: 4 of debt, 2 by its price of 1
        Check.same("49: one short", x.clear(), -1);
        x.raise(1, 3);
        // 19 and 1 of 19: 2 of debt, 1 by its price
        Check.same("49: behind the last year", x.clear(), 19);
    }

    private static void clearYearTwenty() {
        BellMoney x = Tell.town(PLAIN);
        pass(x, 20);
        Check.same("49: no year comes", x.clear(), -1);
    }

    private static void restYears() {
        BellMoney x = Tell.town("town coin 1 purse 3 tax 2 trust 5 frost 0;");
        for (int year = 0; year < 20; year++) {
            Check.same("50: behind year " + year, x.rest(year), 3 + 2 * (year + 1));
        }
        Check.same("50: year 20", x.rest(20), NO_REST);
        for (int far : FAR) {
            Check.same("50: year " + far, x.rest(far), NO_REST);
        }
        Check.same("50: no town", new BellMoney().rest(0), NO_REST);
        Check.same("50: no town", new BellMoney().rest(19), NO_REST);
    }

    private static void restPassed() {
        BellMoney x = Tell.town("town coin 1 purse 3 tax 2 trust 5 frost 0;");
        for (int year = 0; year < 20; year++) {
            x.passes();
            Check.same("50: it has passed", x.rest(year), NO_REST);
            Check.same("50: the one now", x.rest(year + 1), year == 19 ? NO_REST : 3 + 2 * (year + 2));
        }
    }

    private static void restDebtTakenOff() {
        BellMoney x = Tell.town("town coin 1 purse 3 tax 2 trust 5 frost 0;due 6 in 0;due 5 in 0;");
        Check.same("50: nothing left of 5, 12 of debt", x.rest(0), 0 - 12);
        x = Tell.town("town coin 1 purse 3 tax 2 trust 5 frost 0;due 6 in 0;");
        Check.same("50: 5 left, 12 of debt", x.rest(0), 5 - 12);
        x = Tell.town(LookEdgeTest.FULL);
        // trust stays 9: 12 dues of 600000, of 2100000 three are paid
        Check.same("50: the last year", x.rest(19), 2100000 - 1800000 - 2L * 9 * 600000);
    }

    private static void trustYears() {
        BellMoney x = Tell.town(PLAIN);
        int[] due = {6, 7, 8, 9, 9, 9};
        for (int year = 0; year < 6; year++) {
            Check.same("51: behind year " + year, x.trust(year), due[year]);
        }
        Check.same("51: the last", x.trust(19), 9);
        Check.same("51: year 20", x.trust(20), -2);
        for (int far : FAR) {
            Check.same("51: year " + far, x.trust(far), -2);
        }
        x.passes();
        Check.same("51: it has passed", x.trust(0), -2);
        Check.same("51: the one now", x.trust(1), 7);
        pass(x, 19);
        Check.same("51: all have passed", x.trust(19), -2);
        Check.same("51: year 20", x.trust(20), -2);
        Check.same("51: no town", new BellMoney().trust(0), -2);
    }

    private static void ringsAnywhere() {
        Check.same("52: no town", new BellMoney().rings(), -2);
        Check.same("52: no bells", Tell.town(PLAIN).rings(), 0);
        BellMoney x = Tell.town(PLAIN + "tower holds 9;tower holds 9;bell 1 tin 0 note 0 in 0;bell 1 tin 0 note 11 in 1;"
                + "bell 1 tin 0 note 11 in 0;bell 1 tin 0 note 5 in 0 cracked;");
        Check.same("52: 0 and 11", x.rings(), 2049);
        x.cracks(1);
        Check.same("52: another rings it", x.rings(), 2049);
        x.melt(2);
        Check.same("52: 0", x.rings(), 1);
        x.cracks(0);
        Check.same("52: none", x.rings(), 0);
    }

    private static void noteHangs() {
        BellMoney x = Tell.town(PLAIN + "tower holds 9;tower holds 9;bell 1 tin 0 note 0 in 0;bell 1 tin 0 note 11 in 1;"
                + "bell 1 tin 0 note 11 in 0;bell 1 tin 0 note 5 in 0 cracked;");
        Check.same("53: the first", x.note(0), 1);
        Check.same("53: the last", x.note(11), 6);
        Check.same("53: cracked, it hangs", x.note(5), 8);
        Check.same("53: none", x.note(1), 0);
        x.melt(1);
        Check.same("53: those that hang", x.note(11), 4);
        x.cast(1, 0, 11, 0);
        Check.same("53: a cast one", x.note(11), 20);
    }

    private static void noteNoSuch() {
        BellMoney x = Tell.town(PLAIN);
        Check.same("53: 11", x.note(11), 0);
        Check.same("53: 12", x.note(12), -2);
        for (int far : FAR) {
            Check.same("53: note " + far, x.note(far), -2);
        }
        Check.same("53: no town", new BellMoney().note(0), -2);
    }

    private static BellMoney ring(int... notes) {
        StringBuilder text = new StringBuilder("town coin 1 purse 99 tax 0 trust 5 frost 0;tower holds 1000;");
        for (int note : notes) {
            text.append("bell 9 tin 0 note ").append(note).append(" in 0;");
        }
        return Tell.town(text.toString());
    }

    private static void changesNone() {
        Check.same("54: no town", new BellMoney().changes(), -2);
        Check.same("54: no bells", Tell.town(PLAIN).changes(), 0);
        BellMoney x = ring(4);
        Check.same("54: one", x.changes(), 1);
        x.cracks(0);
        Check.same("54: none rings", x.changes(), 0);
        x = ring(4, 5);
        Check.same("54: two, a note away", x.changes(), 0);
        x.cracks(0);
        x.cracks(1);
        Check.same("54: none rings any more", x.changes(), 0);
    }

    private static void changesBeside() {
        Check.same("54: a note away", ring(0, 1).changes(), 0);
        Check.same("54: a note away", ring(11, 10).changes(), 0);
        Check.same("54: two notes away", ring(0, 2).changes(), 2);
        Check.same("54: eleven notes away", ring(0, 11).changes(), 2);
        Check.same("54: 0 2 1 or 1 2 0 have neighbours", ring(0, 1, 2).changes(), 0);
        Check.same("54: 0 3 1 and back", ring(0, 1, 3).changes(), 2);
        Check.same("54: four in a row", ring(0, 1, 2, 3).changes(), 2);
        Check.same("54: all apart", ring(0, 2, 4, 6, 8, 10).changes(), 720);
        Check.same("54: five in a row", ring(0, 1, 2, 3, 4).changes(), 14);
    }

    private static void changesOneOfEachNote() {
        Check.same("54: like ones are one", ring(7, 7, 7).changes(), 1);
        Check.same("54: like ones are one", ring(7, 9, 7, 9).changes(), 2);
        BellMoney x = ring(7, 9, 7);
        x.melt(0);
        Check.same("54: the other rings it", x.changes(), 2);
        x.cracks(2);
        Check.same("54: none rings it", x.changes(), 1);
    }

    private static void changesOfTen() {
        BellMoney x = ring(0, 2, 4, 6, 8, 10, 1, 3);
        x.cast(1, 0, 5, 0);
        x.cast(1, 0, 7, 0);
        // notes 0 to 8 and 10
        Check.same("54: ten", x.changes(), rows(0, -1, 0x5ff));
    }

    /** Rows of the notes left, behind the last one. */
    private static int rows(int used, int last, int notes) {
        if (used == notes) {
            return 1;
        }
        int sum = 0;
        for (int note = 0; note < 12; note++) {
            boolean free = (notes >> note & 1) == 1 && (used >> note & 1) == 0;
            if (free && (last < 0 || Math.abs(note - last) != 1)) {
                sum += rows(used | 1 << note, note, notes);
            }
        }
        return sum;
    }

    /** Three bells of notes 0, 1, 2 in one tower, heard by one ward, of whose peal is one note. */
    private static BellMoney frozen(int frost, int note) {
        return Tell.town("town coin 1 purse 0 tax 0 trust 5 frost " + frost + ";tower holds 9;"
                + "bell 1 tin 0 note 0 in 0;bell 1 tin 0 note 1 in 0;bell 1 tin 0 note 2 in 0;ward 0;peal " + note + ";");
    }

    private static void frostDrawsByNumbers() {
        // seed 1 draws 38 58 13, then 15: at a frost of 39 bells 0 and 2 crack at once, 1 a year later
        Check.same("V: 38", frozen(39, 0).drawn(1, 2), 0);
        Check.same("V: 58, then 15", frozen(39, 1).drawn(1, 2), 1);
        Check.same("V: 13", frozen(39, 2).drawn(1, 2), 0);
    }

    private static void frostBelow() {
        Check.same("V: 58 is not below 58", frozen(58, 1).drawn(1, 2), 1);
        Check.same("V: 58 is below 59", frozen(59, 1).drawn(1, 2), 0);
        Check.yes("V: 13 is not below 13", frozen(13, 2).drawn(1, 2) > 0);
        Check.same("V: 13 is below 14", frozen(14, 2).drawn(1, 2), 0);
        Check.same("V: no frost", frozen(0, 0).drawn(1, 0), 0);
        Check.same("V: no frost, from 0 either", frozen(0, 0).drawn(0, 0), 0);
        // from seed 0 the first draw is 12345 / 65536: 0
        Check.same("V: 0 is below 1", frozen(1, 0).drawn(0, 2), 0);
        Check.same("V: all frost", frozen(100, 0).drawn(7, 0), 7);
        Check.same("V: all frost", frozen(100, 2).drawn(2000000000, 2), 0);
    }

    private static void frostThatRing() {
        // at a frost of 14: 38 58 13, so 2 cracks; 15 51; 27 10, so 1 does; 19; 12, so 0 does
        Check.same("V: 2", frozen(14, 2).drawn(1, 2), 0);
        Check.same("V: 1, as 2 draws no more", frozen(14, 1).drawn(1, 2), 2);
        Check.same("V: 0, as 1 draws no more", frozen(14, 0).drawn(1, 2), 4);
        BellMoney x = frozen(39, 2);
        x.melt(0);
        // 1 draws 38, 2 draws 58, then 13
        Check.same("V: one that hangs no more draws not", x.drawn(1, 2), 1);
        x.undo();
        x.cracks(1);
        // 0 draws 38, 2 draws 58, then 13
        Check.same("V: a cracked one draws not", x.drawn(1, 2), 1);
        x = Tell.town("town coin 1 purse 9 tax 0 trust 5 frost 16;tower holds 9;bell 1 tin 0 note 0 in 0;ward 0;peal 9;");
        x.cast(1, 0, 9, 0);
        // 38 58, 13 15: both in year 1
        Check.same("V: a cast one draws behind the others", x.drawn(1, 2), 1);
        Check.same("V: both", x.drawn(1, 0), 3);
    }

    private static void frostAheadOfPassing() {
        BellMoney x = frozen(39, 0);
        // bell 0 cracks in year 0: trust 4 3 2 1 0
        Check.same("V: ahead of the year's passing", x.drawn(1, 1), 0);
        // one bell draws 38 58 13 15 51 27 10: the seventh is the first below 11
        x = Tell.town("town coin 1 purse 0 tax 0 trust 5 frost 11;tower holds 9;bell 1 tin 0 note 0 in 0;ward 0;peal 0;");
        Check.same("V: in year 6", x.drawn(1, 2), 6);
        pass(x, 13);
        Check.same("V: the seventh year from now is 19", x.drawn(1, 2), 19);
        Check.same("V: 9, and one less", x.drawn(1, 1), 8);
        x.passes();
        Check.same("V: a year later none does", x.drawn(1, 2), -1);
        Check.same("V: all trust", x.drawn(1, 1), 9);
        Check.same("V: none cracked", x.drawn(1, 0), 0);
    }

    private static void frostFromNow() {
        BellMoney x = frozen(100, 0);
        pass(x, 5);
        Check.same("55: from now on", x.drawn(3, 2), 5);
        pass(x, 15);
        Check.same("55: no year comes", x.drawn(3, 2), -1);
        Check.same("55: none cracks", x.drawn(3, 0), 0);
        Check.same("55: trust now", x.drawn(3, 1), x.now(3));
    }

    /** As the document tells draws, of one bell a year. */
    private static int firstBelow(long seed, int frost) {
        BigInteger x = BigInteger.valueOf(seed);
        for (int year = 0; year < 20; year++) {
            x = x.multiply(BigInteger.valueOf(1103515245)).add(BigInteger.valueOf(12345))
                    .mod(BigInteger.valueOf(2147483648L));
            if (x.intValue() / 65536 % 100 < frost) {
                return year;
            }
        }
        return -1;
    }

    private static void drawnSeeds() {
        BellMoney x = Tell.town("town coin 1 purse 0 tax 0 trust 5 frost 9;tower holds 9;bell 1 tin 0 note 0 in 0;ward 0;peal 0;");
        int[] seeds = {0, 1, 2, 65535, 65536, 1073741823, 1073741824, 1999999999, 2000000000};
        for (int seed : seeds) {
            Check.same("V: from seed " + seed, x.drawn(seed, 2), firstBelow(seed, 9));
            Check.same("V: from seed " + seed, x.drawn(seed, 0), firstBelow(seed, 9) < 0 ? 0 : 1);
        }
        for (int seed = 1999999700; seed < 2000000000; seed++) {
            Check.same("V: from seed " + seed, x.drawn(seed, 2), firstBelow(seed, 9));
        }
    }

    private static void drawnNoSuch() {
        BellMoney x = Tell.town(LookEdgeTest.FULL);
        Check.same("55: seed 2000000000", x.drawn(2000000000, 0), 255);
        for (int what = 0; what <= 2; what++) {
            Check.same("55: seed 2000000001", x.drawn(2000000001, what), -2);
            for (int far : FAR) {
                Check.same("55: seed " + far, x.drawn(far, what), -2);
            }
        }
        Check.same("55: what 3", x.drawn(0, 3), -2);
        for (int far : FAR) {
            Check.same("55: what " + far, x.drawn(0, far), -2);
        }
        Check.same("55: no town", new BellMoney().drawn(0, 0), -2);
        x = Tell.town(PLAIN);
        Check.same("55: no bells", x.drawn(0, 0), 0);
        Check.same("55: no bells", x.drawn(0, 1), 9);
        Check.same("55: no bells", x.drawn(0, 2), -1);
    }

    private static void drawnCracked() {
        BellMoney x = Tell.town("town coin 1 purse 0 tax 0 trust 5 frost 0;tower holds 9;bell 1 tin 0 note 0 in 0 cracked;"
                + "bell 1 tin 0 note 1 in 0;bell 1 tin 0 note 2 in 0;");
        Check.same("55: cracked as told", x.drawn(0, 0), 1);
        x.cracks(2);
        Check.same("55: cracked by an act", x.drawn(0, 0), 5);
    }

    private static void wintersBounds() {
        BellMoney x = Tell.town(PLAIN);
        Check.same("56: one", x.winters(0, 1), 1);
        Check.same("56: twenty", x.winters(0, 20), 20);
        Check.same("56: from the last seed on", x.winters(2000000000, 20), 20);
        Check.same("56: 0", x.winters(0, 0), -2);
        Check.same("56: 21", x.winters(0, 21), -2);
        Check.same("56: seed 2000000001", x.winters(2000000001, 1), -2);
        for (int far : FAR) {
            Check.same("56: n " + far, x.winters(0, far), -2);
            Check.same("56: seed " + far, x.winters(far, 1), -2);
        }
        Check.same("56: no town", new BellMoney().winters(0, 1), -2);
    }

    private static void wintersSeeds() {
        // a due in the last year that is paid at a trust of 9 alone
        BellMoney x = Tell.town("town coin 1 purse 60 tax 0 trust 5 frost 4;tower holds 9;bell 1 tin 0 note 0 in 0;"
                + "ward 0;peal 0;due 100 in 19;");
        int good = 0;
        for (int i = 0; i < 20; i++) {
            int first = firstBelow(100 + i, 4);
            // cracked in the last year the bell still was heard ahead of the price
            good += first < 0 || first == 19 ? 1 : 0;
            Check.same("56: seeds 100 to " + (100 + i), x.winters(100, i + 1), good);
        }
        Check.yes("56: some and not all", good > 0 && good < 20);
    }

    private static void wintersNoDebt() {
        Check.same("56: debt at last", Tell.town(PLAIN + "due 100 in 19;").winters(0, 20), 0);
        // debt in between that is paid in the end
        BellMoney x = Tell.town("town coin 1 purse 0 tax 7 trust 5 frost 0;due 6 in 0;due 2 in 0;");
        Check.same("47: not paid at first", x.broke(), 0);
        Check.same("56: no debt at last", x.winters(0, 20), 20);
        x = Tell.town(PLAIN + "due 100 in 0;");
        pass(x, 20);
        Check.same("56: no year comes, debt now", x.winters(0, 20), 0);
    }

    private static void askingChangesNothing() {
        BellMoney x = Tell.town(LookTest.TOWN);
        x.melt(3);
        x.passes();
        String before = Seen.all(x);
        x.sundays();
        x.broke();
        x.clear();
        x.rest(19);
        x.trust(19);
        x.changes();
        x.drawn(5, 0);
        x.winters(5, 20);
        x.enough();
        x.lightest();
        x.loud();
        x.silence();
        x.casts(50, 0, 40);
        x.tested(20, -1);
        x.hold();
        x.fills(0);
        x.pays(20);
        Check.yes("nothing is done", Seen.all(x).equals(before));
    }
}
