/** Promises 24 to 45, sentence by sentence: sets of bells, silence, alloys, towers that hold, sums. */
public final class SetEdgeTest {
    private static final String HEAD = "town coin 10 purse 100 tax 20 trust 5 frost 30;";
    private static final String PLAIN = "town coin 1 purse 0 tax 0 trust 5 frost 0;";
    private static final int[] FAR = {-1, -2, Integer.MIN_VALUE, Integer.MAX_VALUE};

    public static void main(String[] args) {
        enoughNone();
        enoughJust();
        enoughLeastSet();
        enoughAllYears();
        enoughLawful();
        enoughDebtNow();
        enoughYearTwenty();
        ouncesLeast();
        loudEmptySet();
        loudFewest();
        loudPaidOrNot();
        loudLawful();
        loudYearTwenty();
        lawfulNoSuchSet();
        lawfulInSomeOrder();
        lawfulLeast();
        lawfulNow();
        silentNone();
        silentFewest();
        silentLeastSet();
        silentTwoWards();
        guardedAlone();
        alloyNoSuch();
        alloyLowest();
        castsBounds();
        castsBothEnds();
        castsEnough();
        castsHanging();
        castsLeastSet();
        testedBounds();
        testedCut();
        testedCoins();
        testedAll();
        sureAndFew();
        holdNone();
        holdJust();
        holdEachInOne();
        holdOneOunceShort();
        holdLeastSet();
        fillsJust();
        fillsNone();
        fillsNoSuch();
        paysBounds();
        paysJust();
        paysInALawfulOne();
        paidFewest();
        Check.end();
    }

    private static BellMoney town(String head, int... ounces) {
        return Tell.town(LookEdgeTest.bells(head, ounces));
    }

    private static void chosen(String what, BellMoney x, int melted, int lightest) {
        Check.same(what + ": enough", x.enough(), melted < 0 ? melted : Integer.bitCount(melted));
        Check.same(what + ": melted", x.melted(), melted);
        int sum = 0;
        for (int bell = 0; bell < x.count(0); bell++) {
            sum += lightest >= 0 && (lightest >> bell & 1) == 1 ? x.bell(bell, 0) : 0;
        }
        Check.same(what + ": ounces", x.ounces(), lightest < 0 ? lightest : sum);
        Check.same(what + ": lightest", x.lightest(), lightest);
    }

    private static void enoughNone() {
        chosen("24: nothing due", town(PLAIN, 10, 20), 0, 0);
        chosen("24: no bells, nothing due", Tell.town(PLAIN), 0, 0);
        chosen("24: no bells, and a due", Tell.town(PLAIN + "due 5 in 3;"), -1, -1);
        chosen("24: too few", Tell.town(LookEdgeTest.bells(PLAIN, 10, 20) + "due 31 in 0;"), -1, -1);
        chosen("24: no town", new BellMoney(), -2, -2);
    }

    private static void enoughJust() {
        chosen("24: just so many", Tell.town(LookEdgeTest.bells(PLAIN, 10, 20) + "due 30 in 0;"), 3, 3);
        chosen("24: 20", Tell.town(LookEdgeTest.bells(PLAIN, 10, 20) + "due 20 in 0;"), 2, 2);
        chosen("24: one more", Tell.town(LookEdgeTest.bells(PLAIN, 10, 20) + "due 21 in 0;"), 3, 3);
        chosen("24: 10", Tell.town(LookEdgeTest.bells(PLAIN, 10, 20) + "due 10 in 0;"), 1, 1);
        chosen("24: of the purse", Tell.town(LookEdgeTest.bells("town coin 1 purse 9 tax 1 trust 5 frost 0;", 10)
                + "due 10 in 0;"), 0, 0);
        chosen("24: one coin short", Tell.town(LookEdgeTest.bells("town coin 1 purse 9 tax 1 trust 5 frost 0;", 10)
                + "due 11 in 0;"), 1, 1);
    }

    private static void enoughLeastSet() {
        // one of 30 or two of 15, and these are told first
        chosen("25: the fewest, then the least set", Tell.town(LookEdgeTest.bells(PLAIN, 15, 15, 15, 31, 30)
                + "due 30 in 0;"), 8, 3);
        chosen("25: two of three like ones", Tell.town(LookEdgeTest.bells(PLAIN, 15, 15, 15) + "due 30 in 0;"), 3, 3);
        chosen("27: of like sums the least set", Tell.town(LookEdgeTest.bells(PLAIN, 10, 20, 15, 15) + "due 30 in 0;"), 3, 3);
        chosen("27: one for two", Tell.town(LookEdgeTest.bells(PLAIN, 30, 10, 20) + "due 30 in 0;"), 1, 1);
    }

    private static void enoughAllYears() {
        String text = LookEdgeTest.bells("town coin 1 purse 0 tax 0 trust 9 frost 0;", 6, 12) + "due 10 in 0;";
        chosen("24: year 0", Tell.town(text), 1, 1);
        chosen("24: year 19 too", Tell.town(text + "due 10 in 19;"), 2, 2);
        // the peal is gone with the bell: trust falls, and the price goes up to 15
        String peal = LookEdgeTest.bells("town coin 1 purse 0 tax 0 trust 9 frost 0;", 14, 20) + "ward 0;peal 0;";
        chosen("24: the price goes up", Tell.town(peal + "due 10 in 10;"), 2, 2);
        chosen("24: both are enough of nothing less", Tell.town(peal + "due 20 in 10;"), 2, 2);
        chosen("24: at no trust 33 are asked", Tell.town(peal + "due 22 in 10;"), 2, 2);
        chosen("24: 20 are 33 by 6 tenths", Tell.town(peal + "due 33 in 10;"), 2, 2);
        chosen("24: 20 are too few, 34 are not enough at no trust", Tell.town(peal + "due 35 in 10;"), -1, -1);
    }

    private static void enoughLawful() {
        String text = LookEdgeTest.bells(PLAIN, 30, 20, 10) + "due 30 in 0;";
        chosen("24: kept", Tell.town(text + "keeps 0;"), 6, 6);
        chosen("24: the least hang", Tell.town(text + "keeps 0;least 2;"), -1, -1);
        chosen("24: behind another", Tell.town(text + "after 0 2;"), 5, 6);
        chosen("24: all kept", Tell.town(text + "least 3;"), -1, -1);
    }

    private static void enoughDebtNow() {
        BellMoney x = Tell.town(LookEdgeTest.bells(PLAIN, 19, 20) + "due 10 in 0;");
        x.passes();
        chosen("24: a debt of 20", x, 2, 2);
        x.passes();
        chosen("24: a debt of 40", x, -1, -1);
    }

    private static void enoughYearTwenty() {
        BellMoney x = Tell.town(LookEdgeTest.bells(PLAIN, 19) + "due 100 in 19;");
        for (int year = 0; year < 19; year++) {
            x.passes();
        }
        chosen("24: 60 are asked in year 19", x, -1, -1);
        x.passes();
        Check.same("24: debt", x.now(4), 120);
        chosen("24: no year comes", x, 0, 0);
    }

    private static void ouncesLeast() {
        // 50 ounces leave 49, and 49 leave 49
        chosen("26: the lighter one", Tell.town(LookEdgeTest.bells(PLAIN, 50, 49) + "due 49 in 0;"), 1, 2);
        chosen("26: two lighter ones", Tell.town(LookEdgeTest.bells(PLAIN, 101, 49, 49) + "due 98 in 0;"), 1, 6);
    }

    private static void loud(String what, BellMoney x, int trust, int set) {
        Check.same(what + ": loud", x.loud(), trust);
        Check.same(what + ": loudly", x.loudly(), set);
    }

    private static void loudEmptySet() {
        loud("28: no bells", Tell.town(PLAIN), 9, 0);
        loud("28: none is melted", town(PLAIN, 10, 20), 9, 0);
        loud("28: no trust whatever is done", Tell.town(LookEdgeTest.bells(PLAIN, 10) + "ward 0;peal 1;"), 0, 0);
        loud("28: no town", new BellMoney(), -2, -2);
    }

    private static void loudFewest() {
        String text = LookEdgeTest.bells(PLAIN, 90, 91, 200) + "due 300 in 19;ward 0;";
        loud("28: 9 and one more and one less is 9", Tell.town(text), 9, 0);
        String peal = LookEdgeTest.bells("town coin 1 purse 0 tax 0 trust 0 frost 0;", 90, 91, 200) + "ward 0;peal 2;";
        loud("29: none", Tell.town(peal), 9, 0);
        // a debt that never is paid keeps trust at 0; each of the bells pays both dues, and 0 is the least
        loud("29: one", Tell.town(peal + "due 9 in 0;due 9 in 15;"), 9, 1);
    }

    private static void loudPaidOrNot() {
        // from year 0 on a debt that never is paid: trust stays 5; paid by one of 50, it grows to 9
        String text = LookEdgeTest.bells(PLAIN, 50, 60, 40) + "due 49 in 0;";
        loud("29: the least set of one", Tell.town(text), 9, 1);
        loud("29: the second, if the first is of no use", Tell.town(LookEdgeTest.bells(PLAIN, 40, 60, 50) + "due 50 in 0;"), 9, 2);
        loud("29: two of three", Tell.town(LookEdgeTest.bells(PLAIN, 20, 30, 40) + "due 60 in 0;"), 9, 5);
        loud("28: never paid", Tell.town(LookEdgeTest.bells(PLAIN, 20, 30, 40) + "due 1000 in 0;"), 5, 0);
    }

    private static void loudLawful() {
        // 0 alone, of which 59 are left, or 1 and 2 together
        String text = LookEdgeTest.bells(PLAIN, 60, 20, 40) + "due 59 in 0;";
        loud("29: one", Tell.town(text), 9, 1);
        loud("29: kept", Tell.town(text + "keeps 0;"), 9, 6);
        loud("29: behind another", Tell.town(text + "after 0 2;keeps 1;"), 9, 5);
        loud("28: the least hang", Tell.town(text + "keeps 0;least 2;"), 5, 0);
        loud("29: one, though two of a lesser number do it", Tell.town(LookEdgeTest.bells(PLAIN, 20, 40, 60) + "due 59 in 0;"), 9, 4);
        loud("29: one, though three do it", Tell.town(LookEdgeTest.bells(PLAIN, 20, 20, 20, 60) + "due 59 in 0;"), 9, 8);
    }

    private static void loudYearTwenty() {
        BellMoney x = Tell.town(LookEdgeTest.bells(PLAIN, 20) + "ward 0;peal 0;");
        for (int year = 0; year < 20; year++) {
            x.passes();
        }
        loud("28: trust now", x, 9, 0);
    }

    private static void lawfulNoSuchSet() {
        BellMoney x = town(PLAIN, 5, 5, 5);
        Check.same("30: none", x.lawful(0), 1);
        Check.same("30: all", x.lawful(7), 1);
        Check.same("30: a fourth", x.lawful(8), -2);
        Check.same("30: a fourth and others", x.lawful(15), -2);
        for (int far : FAR) {
            Check.same("30: set " + far, x.lawful(far), -2);
        }
        x = Tell.town(PLAIN);
        Check.same("30: none of none", x.lawful(0), 1);
        Check.same("30: one of none", x.lawful(1), -2);
        x = Tell.town(LookEdgeTest.FULL);
        x.cast(1, 0, 0, 0);
        x.cast(1, 0, 0, 0);
        Check.same("30: all ten", x.lawful(1023), 1);
        Check.same("30: an eleventh", x.lawful(1024), -2);
        Check.same("30: no town", new BellMoney().lawful(0), -2);
    }

    private static void lawfulInSomeOrder() {
        BellMoney x = Tell.town(LookEdgeTest.bells(PLAIN, 5, 5, 5) + "after 0 1;after 1 2;");
        int[] due = {1, 0, 0, 0, 1, 0, 1, 1};
        for (int set = 0; set < 8; set++) {
            Check.same("30: a chain, set " + set, x.lawful(set), due[set]);
        }
        x = Tell.town(LookEdgeTest.bells(PLAIN, 5, 5, 5) + "after 0 1;after 1 0;");
        int[] round = {1, 0, 0, 0, 1, 0, 0, 0};
        for (int set = 0; set < 8; set++) {
            Check.same("30: round about, set " + set, x.lawful(set), round[set]);
        }
        x = Tell.town(LookEdgeTest.bells(PLAIN, 5, 5, 5) + "after 0 1;keeps 1;");
        int[] kept = {1, 0, 0, 0, 1, 0, 0, 0};
        for (int set = 0; set < 8; set++) {
            Check.same("30: behind a kept one, set " + set, x.lawful(set), kept[set]);
        }
    }

    private static void lawfulLeast() {
        for (int least = 0; least <= 4; least++) {
            BellMoney x = Tell.town(LookEdgeTest.bells(PLAIN, 5, 5, 5) + "least " + least + ";");
            for (int set = 0; set < 8; set++) {
                boolean due = set == 0 || 3 - Integer.bitCount(set) >= least;
                Check.same("30: least " + least + ", set " + set, x.lawful(set), due ? 1 : 0);
            }
        }
    }

    private static void lawfulNow() {
        BellMoney x = Tell.town(LookEdgeTest.bells(PLAIN, 5, 5, 5) + "after 0 1;least 1;");
        Check.same("30: behind 1", x.lawful(1), 0);
        x.melt(1);
        Check.same("30: 1 is gone", x.lawful(1), 1);
        Check.same("30: 1 does not hang", x.lawful(2), 0);
        Check.same("30: with one that does not hang", x.lawful(3), 0);
        Check.same("30: one must stay", x.lawful(5), 0);
    }

    private static void silence(String what, BellMoney x, int set, int guarded) {
        Check.same(what + ": silent", x.silent(), set < 0 ? set : Integer.bitCount(set));
        Check.same(what + ": silence", x.silence(), set);
        Check.same(what + ": guarded", x.guarded(), guarded);
    }

    private static void silentNone() {
        silence("31: no town", new BellMoney(), -2, -2);
        silence("31: no ward, no peal", town(PLAIN, 5, 5), -1, 0);
        silence("31: no ward", Tell.town(LookEdgeTest.bells(PLAIN, 5, 5) + "peal 0;"), -1, 0);
        silence("31: no peal", Tell.town(LookEdgeTest.bells(PLAIN, 5, 5) + "ward 0;"), -1, 0);
        silence("31: one misses it already", Tell.town(LookEdgeTest.bells(PLAIN, 5, 5) + "ward 0;peal 0 2;"), -1, 1);
        silence("31: no bell at all", Tell.town(PLAIN + "tower holds 9;ward 0;peal 0;"), -1, 0);
        silence("31: one of two wards misses it", Tell.town(PLAIN + "tower holds 9;tower holds 9;bell 1 tin 0 note 0 in 0;"
                + "ward 0;ward 1;peal 0;"), -1, 1);
    }

    private static String ringers(int... notes) {
        StringBuilder text = new StringBuilder(PLAIN + "tower holds 99;tower holds 99;");
        for (int note : notes) {
            text.append("bell 1 tin 0 note ").append(note).append(" in 0;");
        }
        return text.toString();
    }

    private static void silentFewest() {
        silence("31: one", Tell.town(ringers(3) + "ward 0;peal 3;"), 1, 1);
        silence("31: the first note", Tell.town(ringers(11, 0) + "ward 0;peal 0;"), 2, 2);
        silence("31: the last note", Tell.town(ringers(0, 11) + "ward 0;peal 11;"), 2, 2);
        silence("31: two", Tell.town(ringers(3, 3) + "ward 0;peal 3;"), 3, 0);
        silence("31: all eight", Tell.town(ringers(3, 3, 3, 3, 3, 3, 3, 3) + "ward 0;peal 3;"), 255, 0);
        silence("31: the note of fewer", Tell.town(ringers(3, 3, 3, 4, 4) + "ward 0;peal 3 4;"), 24, 0);
        silence("31: others do not count", Tell.town(ringers(3, 3, 3, 4) + "ward 0;peal 3;"), 7, 0);
        BellMoney x = Tell.town(ringers(3, 3, 3) + "ward 0;peal 3;");
        x.cracks(1);
        silence("31: those that ring", x, 5, 0);
        x.melt(0);
        silence("31: those that ring", x, 4, 4);
        x.cast(1, 0, 3, 1);
        silence("31: not of another tower", x, 4, 4);
    }

    private static void silentLeastSet() {
        silence("32: the least of two", Tell.town(ringers(4, 3) + "ward 0;peal 3 4;"), 1, 3);
        silence("32: the least of pairs", Tell.town(ringers(3, 4, 4, 3) + "ward 0;peal 3 4;"), 6, 0);
    }

    private static void silentTwoWards() {
        String text = PLAIN + "tower holds 9;tower holds 9;bell 1 tin 0 note 5 in 0;bell 1 tin 0 note 5 in 0;bell 1 tin 0 note 5 in 1;";
        silence("31: of the ward that hears fewer", Tell.town(text + "ward 0 1;ward 1;peal 5;"), 4, 4);
        silence("31: of both together", Tell.town(text + "ward 0 1;peal 5;"), 7, 0);
        silence("31: of either tower", Tell.town(text + "ward 0;ward 0 1;peal 5;"), 3, 0);
    }

    private static void guardedAlone() {
        silence("33: two notes, one each", Tell.town(ringers(3, 4, 5, 5) + "ward 0;peal 3 4 5;"), 1, 3);
        silence("33: not of the peal", Tell.town(ringers(3, 4) + "ward 0;peal 3;"), 1, 1);
        // a ward misses note 9 already: what it hears now is guarded all the same
        silence("33: a note that it hears now", Tell.town(ringers(3, 4, 4) + "ward 0;peal 3 4 9;"), -1, 1);
        BellMoney x = Tell.town(ringers(3, 3) + "ward 0;peal 3;");
        x.cracks(0);
        silence("33: one rings", x, 2, 2);
        x.cracks(1);
        silence("33: none rings", x, -1, 0);
    }

    private static void alloyNoSuch() {
        BellMoney x = town(PLAIN, 5, 5);
        Check.same("34: one and above", x.alloy(0, 0), -2);
        Check.same("34: a third", x.alloy(4, 0), -2);
        Check.same("34: all", x.alloy(3, 1), 1);
        Check.same("34: what 2", x.alloy(1, 2), -2);
        for (int far : FAR) {
            Check.same("34: set " + far, x.alloy(far, 0), -2);
            Check.same("34: what " + far, x.alloy(1, far), -2);
        }
        Check.same("34: no town", new BellMoney().alloy(1, 0), -2);
        x = Tell.town(LookEdgeTest.FULL);
        x.cast(10000, 40, 0, 0);
        x.cast(10000, 40, 0, 0);
        Check.same("34: all ten", x.alloy(1023, 0), 40);
        Check.same("34: an eleventh", x.alloy(1024, 0), -2);
    }

    private static void alloy(String what, BellMoney x, int set, int above, int below) {
        Check.same(what + ", above", x.alloy(set, 0), above);
        Check.same(what + ", below", x.alloy(set, 1), below);
    }

    private static void alloyLowest() {
        BellMoney x = Tell.town(PLAIN + "tower holds 99999;bell 3 tin 0 note 0 in 0;bell 6 tin 40 note 0 in 0;"
                + "bell 10000 tin 39 note 0 in 0;bell 9999 tin 40 note 0 in 0;bell 3 tin 20 note 0 in 0;");
        alloy("V: no tin", x, 1, 0, 1);
        alloy("V: one bell", x, 2, 40, 1);
        alloy("V: 240 by 9", x, 3, 80, 3);
        alloy("V: 60 by 6", x, 17, 10, 1);
        alloy("V: 300 by 9", x, 18, 100, 3);
        // 390000 and 399960 by 19999, which is 7 times 2857; 789960 by 7 is not whole
        alloy("V: no common part", x, 12, 789960, 19999);
        x.melt(0);
        alloy("34: hanging or not", x, 3, 80, 3);
    }

    private static void castsNoSuch(BellMoney x, int ounces, int from, int to) {
        Check.same("35: " + ounces + " of " + from + " to " + to, x.casts(ounces, from, to), -2);
        Check.same("36: " + ounces + " of " + from + " to " + to, x.castOf(ounces, from, to), -2);
    }

    private static void casts(String what, BellMoney x, int ounces, int from, int to, int least, int set) {
        Check.same("35: " + what, x.casts(ounces, from, to), least);
        Check.same("36: " + what, x.castOf(ounces, from, to), set);
    }

    private static void castsBounds() {
        BellMoney x = Tell.town(LookEdgeTest.FULL);
        casts("the least", x, 1, 40, 40, 10000, 1);
        casts("the most", x, 10000, 0, 40, 20000, 3);
        casts("no such tin", x, 1, 0, 0, -1, -1);
        castsNoSuch(x, 0, 0, 40);
        castsNoSuch(x, 10001, 0, 40);
        castsNoSuch(x, 1, 0, 41);
        castsNoSuch(x, 1, 41, 41);
        castsNoSuch(x, 1, 40, 39);
        castsNoSuch(x, 1, 1, 0);
        for (int far : FAR) {
            castsNoSuch(x, far, 0, 40);
            castsNoSuch(x, 1, far, 40);
            castsNoSuch(x, 1, 0, far);
        }
        castsNoSuch(new BellMoney(), 1, 0, 40);
        casts("no bells", Tell.town(PLAIN), 1, 0, 40, -1, -1);
    }

    private static void castsBothEnds() {
        // together 300 by 10: 30 in a hundred
        BellMoney x = Tell.town(PLAIN + "tower holds 99;bell 5 tin 25 note 0 in 0;bell 5 tin 35 note 0 in 0;"
                + "bell 2 tin 36 note 0 in 0;");
        casts("just at both", x, 10, 30, 30, 10, 3);
        casts("from it on", x, 10, 30, 40, 10, 3);
        casts("to it", x, 10, 0, 30, 10, 3);
        // all: 372 by 12 is 31
        casts("just above it", x, 10, 31, 40, 12, 7);
        casts("just below it", x, 10, 0, 29, -1, -1);
        // 0 and 2: 197 by 7 is 28 1/7
        casts("between two tins", x, 6, 28, 29, 7, 5);
        casts("of neither alone", x, 6, 28, 28, -1, -1);
        casts("of neither alone", x, 6, 29, 29, -1, -1);
    }

    private static void castsEnough() {
        BellMoney x = Tell.town(LookEdgeTest.bells(PLAIN, 50, 49, 100));
        casts("49 of 49", x, 49, 0, 40, 49, 2);
        casts("50 of 100, or two", x, 50, 0, 40, 99, 3);
        casts("98 of two", x, 98, 0, 40, 99, 3);
        casts("99", x, 99, 0, 40, 149, 6);
        casts("98 and 98", x, 196, 0, 40, 199, 7);
        casts("not one more", x, 197, 0, 40, -1, -1);
    }

    private static void castsHanging() {
        BellMoney x = Tell.town(LookEdgeTest.bells(PLAIN, 50, 49) + "keeps 0;least 1;");
        casts("kept or not", x, 98, 0, 0, 99, 3);
        x.melt(1);
        casts("those that hang", x, 98, 0, 0, -1, -1);
        casts("those that hang", x, 49, 0, 0, 50, 1);
        x.cracks(0);
        casts("a cracked one hangs", x, 49, 0, 0, 50, 1);
        x.cast(20, 0, 0, 0);
        casts("a cast one too", x, 20, 0, 0, 20, 4);
    }

    private static void castsLeastSet() {
        casts("the least of like ones", town(PLAIN, 9, 9, 9), 9, 0, 0, 9, 1);
        casts("the least of like pairs", town(PLAIN, 9, 9, 9), 18, 0, 0, 18, 3);
        casts("two for one: the least set", town(PLAIN, 18, 9, 9), 18, 0, 0, 18, 1);
        casts("two for one: the least set", town(PLAIN, 9, 9, 18), 18, 0, 0, 18, 3);
    }

    private static void testedNoSuch(BellMoney x, int tin, int coins) {
        Check.same("37: tin " + tin + " coins " + coins, x.tested(tin, coins), -2);
        Check.same("38: tin " + tin + " coins " + coins, x.sure(tin, coins, 0), -2);
        Check.same("38: tin " + tin + " coins " + coins, x.sure(tin, coins, 1), -2);
        Check.same("39: tin " + tin + " coins " + coins, x.few(tin, coins), -2);
    }

    private static void tested(String what, BellMoney x, int tin, int coins, int... due) {
        Check.same("37: " + what, x.tested(tin, coins), due[0]);
        Check.same("38: in all, " + what, x.sure(tin, coins, 0), due[1]);
        Check.same("38: in some, " + what, x.sure(tin, coins, 1), due[2]);
        Check.same("39: " + what, x.few(tin, coins), due[3]);
    }

    private static void testedBounds() {
        BellMoney x = Tell.town(PLAIN + "tower holds 99;bell 5 tin 0 note 0 in 0;bell 5 tin 40 note 0 in 0;");
        tested("tin 0", x, 0, -1, 1, 1, 1, 1);
        tested("tin 40", x, 40, -1, 1, 2, 2, 1);
        tested("tin 20", x, 20, -1, 1, 3, 3, 2);
        tested("no such tin there", x, 39, -1, 0, 0, 0, -1);
        testedNoSuch(x, 41, -1);
        testedNoSuch(x, 0, -2);
        for (int far : new int[] {-1, -2, Integer.MIN_VALUE, Integer.MAX_VALUE}) {
            testedNoSuch(x, far, -1);
        }
        testedNoSuch(x, 0, Integer.MIN_VALUE);
        tested("far too many coins", x, 0, Integer.MAX_VALUE, 0, 0, 0, -1);
        testedNoSuch(new BellMoney(), 0, -1);
        tested("no bells", Tell.town(PLAIN), 0, -1, 0, 0, 0, -1);
        Check.same("38: what 2", x.sure(0, -1, 2), -2);
        for (int far : FAR) {
            Check.same("38: what " + far, x.sure(0, -1, far), -2);
        }
    }

    private static void testedCut() {
        // together 10 2/3, cut to 10
        BellMoney x = Tell.town(PLAIN + "tower holds 99;bell 1 tin 10 note 0 in 0;bell 2 tin 11 note 0 in 0;");
        tested("cut", x, 10, -1, 2, 1, 3, 1);
        tested("whole", x, 11, -1, 1, 2, 2, 1);
        tested("not up", x, 12, -1, 0, 0, 0, -1);
    }

    private static void testedCoins() {
        // coins 9, 9 and 0, ounces over 8, 8 and 9: together 18, not 20
        BellMoney x = town("town coin 10 purse 0 tax 0 trust 0 frost 0;", 100, 100, 9);
        tested("whatever", x, 0, -1, 7, 0, 7, 1);
        tested("none", x, 0, 0, 1, 4, 4, 1);
        tested("9", x, 0, 9, 4, 0, 7, 1);
        tested("18, each for itself", x, 0, 18, 2, 3, 7, 2);
        tested("20", x, 0, 20, 0, 0, 0, -1);
        tested("1", x, 0, 1, 0, 0, 0, -1);
        tested("another tin", x, 1, 9, 0, 0, 0, -1);
    }

    private static void testedAll() {
        BellMoney x = Tell.town(LookEdgeTest.FULL);
        tested("all of eight", x, 40, -1, 255, 0, 255, 1);
        x.cast(10000, 40, 0, 0);
        x.cast(10000, 40, 0, 0);
        tested("all of ten", x, 40, -1, 1023, 0, 1023, 1);
        tested("ten", x, 40, 98000, 1, 1023, 1023, 10);
        tested("nine", x, 40, 88200, 10, 0, 1023, 9);
        x.melt(0);
        x.cracks(1);
        tested("hanging or not", x, 40, -1, 1023, 0, 1023, 1);
        x.undo();
        x.undo();
        x.undo();
        tested("nine, one is taken back", x, 40, -1, 511, 0, 511, 1);
    }

    private static void sureAndFew() {
        BellMoney x = Tell.town(PLAIN + "tower holds 99;bell 4 tin 10 note 0 in 0;bell 4 tin 20 note 0 in 0;"
                + "bell 4 tin 20 note 0 in 0;");
        tested("the first with one or the other", x, 15, -1, 2, 1, 7, 2);
        Check.same("38: asked alone", x.sure(20, -1, 1), 6);
        Check.same("38: asked alone", x.sure(16, -1, 0), 7);
        Check.same("39: asked alone", x.few(10, -1), 1);
        tested("all of them", x, 16, -1, 1, 7, 7, 3);
        tested("the others", x, 20, -1, 3, 0, 6, 1);
    }

    private static void holds(String what, BellMoney x, int towers) {
        Check.same("40: " + what, x.hold(), towers < 0 ? towers : Integer.bitCount(towers));
        Check.same("41: " + what, x.held(), towers);
    }

    private static void holdNone() {
        holds("no town", new BellMoney(), -2);
        holds("no towers, no bells", Tell.town(PLAIN), 0);
        holds("no bells", Tell.town(PLAIN + "tower holds 9;"), 0);
        BellMoney x = town(PLAIN, 5);
        holds("one", x, 1);
        x.melt(0);
        holds("none hangs", x, 0);
    }

    private static void holdJust() {
        String text = PLAIN + "tower holds 10;tower holds 20;bell 10 tin 0 note 0 in 0;bell 10 tin 0 note 0 in 1;";
        holds("just so much", Tell.town(text), 2);
        holds("one ounce more", Tell.town(PLAIN + "tower holds 11;tower holds 20;bell 11 tin 0 note 0 in 0;"
                + "bell 10 tin 0 note 0 in 1;"), 3);
        BellMoney x = Tell.town(text);
        x.cracks(0);
        holds("a cracked one hangs too", x, 2);
        x.melt(1);
        holds("those that hang", x, 1);
    }

    private static void holdEachInOne() {
        holds("15 and 15 of 10 each", Tell.town(PLAIN + "tower holds 10;tower holds 15;tower holds 15;"
                + "bell 10 tin 0 note 0 in 0;bell 10 tin 0 note 0 in 1;bell 10 tin 0 note 0 in 2;"), 7);
        holds("all four", Tell.town(PLAIN + "tower holds 6;".repeat(4) + "bell 6 tin 0 note 0 in 0;bell 6 tin 0 note 0 in 1;"
                + "bell 6 tin 0 note 0 in 2;bell 6 tin 0 note 0 in 3;"), 15);
        String four = "bell 7 tin 0 note 0 in 0;bell 5 tin 0 note 0 in 0;bell 4 tin 0 note 0 in 0;bell 4 tin 0 note 0 in 0;";
        holds("all in one", Tell.town(PLAIN + "tower holds 20;tower holds 11;tower holds 9;" + four), 1);
        holds("two with room", Tell.town(PLAIN + "tower holds 19;tower holds 11;tower holds 9;"
                + "bell 7 tin 0 note 0 in 1;bell 5 tin 0 note 0 in 2;bell 4 tin 0 note 0 in 1;bell 4 tin 0 note 0 in 2;"), 3);
        // 7 and 4, 5 and 4: no other way does
        holds("a tight fit", Tell.town(PLAIN + "tower holds 8;tower holds 11;tower holds 9;"
                + "bell 7 tin 0 note 0 in 1;bell 5 tin 0 note 0 in 2;bell 4 tin 0 note 0 in 1;bell 4 tin 0 note 0 in 2;"), 6);
    }

    /** Two towers have room for so many ounces, but not for these bells by one ounce. */
    private static void holdOneOunceShort() {
        String two = "bell 11 tin 0 note 0 in 1;bell 11 tin 0 note 0 in 2;";
        holds("the first is short", Tell.town(PLAIN + "tower holds 10;tower holds 12;tower holds 11;" + two), 6);
        holds("the second is short", Tell.town(PLAIN + "tower holds 12;tower holds 10;tower holds 11;"
                + "bell 11 tin 0 note 0 in 0;bell 11 tin 0 note 0 in 2;"), 5);
        holds("room for three, and one", Tell.town(PLAIN + "tower holds 15;tower holds 13;tower holds 7;"
                + "bell 7 tin 0 note 0 in 0;bell 7 tin 0 note 0 in 0;bell 7 tin 0 note 0 in 1;bell 7 tin 0 note 0 in 2;"), 7);
    }

    private static void holdLeastSet() {
        holds("the first of like ones", Tell.town(PLAIN + "tower holds 9;tower holds 9;tower holds 9;"
                + "bell 9 tin 0 note 0 in 2;"), 1);
        holds("the first pair", Tell.town(PLAIN + "tower holds 9;".repeat(4) + "bell 9 tin 0 note 0 in 2;"
                + "bell 9 tin 0 note 0 in 3;"), 3);
        holds("one for two", Tell.town(PLAIN + "tower holds 9;tower holds 9;tower holds 18;bell 9 tin 0 note 0 in 0;"
                + "bell 9 tin 0 note 0 in 1;"), 4);
    }

    private static void fills(String what, BellMoney x, int tower, int ounces, int set) {
        Check.same("42: " + what, x.fills(tower), ounces);
        Check.same("43: " + what, x.filled(tower), set);
    }

    private static void fillsJust() {
        BellMoney x = Tell.town("town coin 1 purse 99 tax 0 trust 5 frost 0;"
                + "tower holds 100;tower holds 12;tower holds 13;tower holds 39;"
                + "bell 12 tin 0 note 0 in 0;bell 7 tin 0 note 0 in 0;bell 6 tin 0 note 0 in 0;bell 14 tin 0 note 0 in 0;");
        fills("all", x, 0, 39, 15);
        fills("just one", x, 1, 12, 1);
        fills("just two", x, 2, 13, 6);
        fills("just all", x, 3, 39, 15);
        x.cracks(1);
        fills("a cracked one hangs", x, 2, 13, 6);
        x.melt(1);
        fills("those that hang", x, 2, 12, 1);
        x.cast(13, 0, 0, 0);
        fills("a cast one too", x, 2, 13, 16);
        fills("the least set", Tell.town(PLAIN + "tower holds 99;tower holds 9;bell 9 tin 0 note 0 in 0;"
                + "bell 5 tin 0 note 0 in 0;bell 4 tin 0 note 0 in 0;"), 1, 9, 1);
        fills("the least set", Tell.town(PLAIN + "tower holds 99;tower holds 9;bell 5 tin 0 note 0 in 0;"
                + "bell 4 tin 0 note 0 in 0;bell 9 tin 0 note 0 in 0;"), 1, 9, 3);
    }

    private static void fillsNone() {
        fills("no bells", Tell.town(PLAIN + "tower holds 9;"), 0, 0, 0);
        BellMoney x = Tell.town(PLAIN + "tower holds 9;tower holds 8;bell 9 tin 0 note 0 in 0;");
        fills("one ounce too many", x, 1, 0, 0);
        fills("its own", x, 0, 9, 1);
        x.melt(0);
        fills("none hangs", x, 0, 0, 0);
    }

    private static void fillsNoSuch() {
        BellMoney x = Tell.town(LookEdgeTest.FULL);
        fills("the last", x, 3, 80000, 255);
        fills("a fifth", x, 4, -2, -2);
        for (int far : FAR) {
            fills("tower " + far, x, far, -2, -2);
        }
        fills("a town without towers", Tell.town(PLAIN), 0, -2, -2);
        fills("no town", new BellMoney(), 0, -2, -2);
    }

    private static void pays(String what, BellMoney x, int n, int coins, int few) {
        Check.same("44: " + what, x.pays(n), coins);
        Check.same("45: " + what, x.paid(n), few);
    }

    private static void paysBounds() {
        BellMoney x = Tell.town(LookEdgeTest.FULL);
        pays("nothing", x, 0, 0, 0);
        pays("all of eight", x, 78400, 78400, 8);
        pays("not one more", x, 78401, -1, -1);
        pays("the most", x, 1000000, -1, -1);
        pays("more than that", x, 1000001, -2, -2);
        for (int far : FAR) {
            pays("n " + far, x, far, -2, -2);
        }
        pays("no bells", Tell.town(PLAIN), 0, 0, 0);
        pays("no bells", Tell.town(PLAIN), 1, -1, -1);
        pays("no town", new BellMoney(), 0, -2, -2);
    }

    private static void paysJust() {
        BellMoney x = town(PLAIN, 10, 25, 7);
        int[][] due = {{1, 7, 1}, {7, 7, 1}, {8, 10, 1}, {10, 10, 1}, {11, 17, 2}, {17, 17, 2}, {18, 25, 1}, {25, 25, 1},
            {26, 32, 2}, {33, 35, 2}, {35, 35, 2}, {36, 42, 3}, {42, 42, 3}};
        for (int[] row : due) {
            pays("of " + row[0], x, row[0], row[1], row[2]);
        }
        pays("of 43", x, 43, -1, -1);
        x.melt(1);
        pays("gone", x, 18, -1, -1);
        pays("purse counts not", x, 17, 17, 2);
    }

    private static void paysInALawfulOne() {
        pays("kept", Tell.town(LookEdgeTest.bells(PLAIN, 10, 25) + "keeps 1;"), 11, -1, -1);
        pays("the least hang", Tell.town(LookEdgeTest.bells(PLAIN, 10, 25) + "least 2;"), 1, -1, -1);
        pays("nothing is lawful, too", Tell.town(LookEdgeTest.bells(PLAIN, 10, 25) + "least 2;"), 0, 0, 0);
        pays("behind another", Tell.town(LookEdgeTest.bells(PLAIN, 10, 25) + "after 0 1;"), 1, 10, 1);
        pays("behind a kept one", Tell.town(LookEdgeTest.bells(PLAIN, 10, 25) + "after 0 1;keeps 1;"), 1, -1, -1);
        // 1 is enough for 0, but one must hang
        pays("behind another that is the last that may", Tell.town(LookEdgeTest.bells(PLAIN, 10, 25) + "after 0 1;least 1;"),
                1, 25, 1);
    }

    private static void paidFewest() {
        pays("one for two", town(PLAIN, 10, 15, 25), 25, 25, 1);
        pays("one for two, told first", town(PLAIN, 25, 15, 10), 24, 25, 1);
        // a bell of no coins comes free, but is not needed
        pays("none of no coins", town("town coin 10 purse 0 tax 0 trust 5 frost 0;", 5, 100), 1, 9, 1);
    }
}
