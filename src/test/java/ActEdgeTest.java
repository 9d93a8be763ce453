/** Promises 17 to 22 and 57 to 61, sentence by sentence, with terms III and IV: acts, refused ones, taken back. */
public final class ActEdgeTest {
    private static final String HEAD = "town coin 10 purse 100 tax 20 trust 5 frost 30;";
    private static final String PLAIN = "town coin 1 purse 0 tax 0 trust 5 frost 0;";
    private static final int[] FAR = {-1, -2, Integer.MIN_VALUE, Integer.MAX_VALUE};

    public static void main(String[] args) {
        meltGives();
        meltNothing();
        meltMayNot();
        meltNoneSuch();
        castBounds();
        castNoneSuch();
        castOfHeap();
        castOfHeapAndPurse();
        castNotEnough();
        castTowerHolds();
        castTen();
        castNoneSuchFirst();
        castUnderNoLaw();
        yearTaxFirst();
        yearJustPaid();
        yearDebtFirst();
        yearDuesAsTold();
        yearDebtAsOne();
        yearDebtTwice();
        yearPriceOfNothing();
        yearTrust();
        yearTrustInTheEnd();
        passesToTwenty();
        cracksOnce();
        cracksRefused();
        undoOneByOne();
        undoRefused();
        anewAll();
        fortyActs();
        raiseBounds();
        raiseRefused();
        taxBounds();
        taxRefused();
        counts();
        imageNoSuch();
        imageKeepsTownAndActs();
        imageOfNoTown();
        imageInPlaceOfAnother();
        backLeavesTheRest();
        Check.end();
    }

    private static BellMoney town(String head, int... ounces) {
        return Tell.town(LookEdgeTest.bells(head, ounces));
    }

    private static void purseAndHeap(String what, BellMoney x, long purse, long heap) {
        Check.same(what + ", purse", x.now(1), purse);
        Check.same(what + ", heap", x.now(2), heap);
    }

    private static void meltGives() {
        BellMoney x = town("town coin 10 purse 3 tax 0 trust 0 frost 0;", 50, 61, 10000);
        Check.same("17: 49 left", x.melt(0), 4);
        purseAndHeap("17: nine over", x, 7, 9);
        Check.same("17: 60 left", x.melt(1), 6);
        purseAndHeap("17: none over", x, 13, 9);
        Check.same("17: 9800 left", x.melt(2), 980);
        purseAndHeap("17: all", x, 993, 9);
        Check.same("17: none hangs", x.now(5), 0);
        Check.same("17: three acts", x.count(8), 3);
    }

    private static void meltNothing() {
        BellMoney x = town("town coin 100 purse 0 tax 0 trust 0 frost 0;", 101, 1);
        Check.same("17: 99 left are no coin", x.melt(0), 0);
        purseAndHeap("17: all over", x, 0, 99);
        Check.same("17: an ounce", x.melt(1), 0);
        purseAndHeap("17: 100 ounces of two stay ounces", x, 0, 100);
        Check.same("17: melted all the same", x.bell(0, 4), 0);
    }

    private static void meltMayNot() {
        BellMoney x = Tell.town(LookEdgeTest.bells(HEAD, 5, 5, 5, 5) + "keeps 0;after 1 2;least 2;");
        x.melt(3);
        String before = Seen.all(x);
        Check.same("17: it does not hang", x.melt(3), -5);
        Check.same("17: kept", x.melt(0), -5);
        Check.same("17: behind another", x.melt(1), -5);
        Check.yes("17: nothing happens", Seen.all(x).equals(before));
        Check.same("17: the other", x.melt(2), 0);
        before = Seen.all(x);
        Check.same("17: as few as the least", x.melt(1), -5);
        Check.yes("17: nothing happens", Seen.all(x).equals(before));
    }

    private static void meltNoneSuch() {
        BellMoney x = Tell.town(LookEdgeTest.FULL);
        Check.same("17: a ninth", x.melt(8), -2);
        for (int far : FAR) {
            Check.same("17: bell " + far, x.melt(far), -2);
        }
        Check.same("17: no act", x.count(8), 0);
        Check.same("17: the last", x.melt(7), 9800);
        x.cast(1, 0, 0, 0);
        Check.same("17: a cast one", x.melt(8), 1);
        x.anew();
        Check.same("17: taken back", x.melt(8), -2);
        Check.same("17: a town without bells", Tell.town(HEAD).melt(0), -2);
    }

    private static void castBounds() {
        BellMoney x = Tell.town(LookEdgeTest.FULL);
        Check.same("18: the least of all", x.cast(1, 0, 0, 0), 8);
        Check.same("18: the most of all", x.cast(10000, 40, 11, 3), 9);
        Check.same("18: ounces", x.bell(8, 0), 1);
        Check.same("18: ounces", x.bell(9, 0), 10000);
        Check.same("18: tin", x.bell(8, 1), 0);
        Check.same("18: tin", x.bell(9, 1), 40);
        Check.same("18: note", x.bell(8, 2), 0);
        Check.same("18: note", x.bell(9, 2), 11);
        Check.same("18: tower", x.bell(8, 3), 0);
        Check.same("18: tower", x.bell(9, 3), 3);
    }

    private static void castNoneSuch() {
        BellMoney x = Tell.town(LookEdgeTest.FULL);
        String before = Seen.all(x);
        Check.same("18: ounces 0", x.cast(0, 0, 0, 0), -2);
        Check.same("18: ounces 10001", x.cast(10001, 0, 0, 0), -2);
        Check.same("18: tin 41", x.cast(1, 41, 0, 0), -2);
        Check.same("18: note 12", x.cast(1, 0, 12, 0), -2);
        Check.same("18: tower 4", x.cast(1, 0, 0, 4), -2);
        for (int far : FAR) {
            Check.same("18: ounces " + far, x.cast(far, 0, 0, 0), -2);
            Check.same("18: tin " + far, x.cast(1, far, 0, 0), -2);
            Check.same("18: note " + far, x.cast(1, 0, far, 0), -2);
            Check.same("18: tower " + far, x.cast(1, 0, 0, far), -2);
        }
        Check.yes("18: nothing happens", Seen.all(x).equals(before));
        Check.same("18: one told", Tell.town(HEAD + "tower holds 9;").cast(1, 0, 0, 1), -2);
        Check.same("18: a town without towers", Tell.town(HEAD).cast(1, 0, 0, 0), -2);
        Check.same("18: no town", new BellMoney().cast(1, 0, 0, 0), -2);
    }

    private static void castOfHeap() {
        BellMoney x = town("town coin 100 purse 0 tax 0 trust 0 frost 0;", 99);
        x.melt(0);
        purseAndHeap("III: the heap alone", x, 0, 98);
        Check.same("III: one ounce too many", x.cast(99, 0, 0, 0), -5);
        Check.same("III: all of it", x.cast(98, 0, 0, 0), 1);
        purseAndHeap("III: none is left", x, 0, 0);
        x.undo();
        Check.same("III: less", x.cast(97, 0, 0, 0), 1);
        purseAndHeap("III: one is left", x, 0, 1);
    }

    private static void castOfHeapAndPurse() {
        BellMoney x = town("town coin 10 purse 1 tax 0 trust 0 frost 0;", 50);
        x.melt(0);
        purseAndHeap("III: heap and purse", x, 5, 9);
        Check.same("III: the heap has so many", x.cast(9, 0, 0, 0), 1);
        purseAndHeap("III: no coin comes", x, 5, 0);
        x.undo();
        Check.same("III: one ounce more", x.cast(10, 0, 0, 0), 1);
        purseAndHeap("III: one coin comes, what is over stays", x, 4, 9);
        x.undo();
        Check.same("III: one coin and the heap", x.cast(19, 0, 0, 0), 1);
        purseAndHeap("III: just one coin", x, 4, 0);
        x.undo();
        Check.same("III: one more", x.cast(20, 0, 0, 0), 1);
        purseAndHeap("III: two coins", x, 3, 9);
        x.undo();
        Check.same("III: all there is", x.cast(59, 0, 0, 0), 1);
        purseAndHeap("III: nothing is left", x, 0, 0);
    }

    private static void castNotEnough() {
        BellMoney x = town("town coin 10 purse 1 tax 0 trust 0 frost 0;", 50);
        x.melt(0);
        String before = Seen.all(x);
        Check.same("18: one ounce too many", x.cast(60, 0, 0, 0), -5);
        Check.same("18: far too many", x.cast(10000, 0, 0, 0), -5);
        Check.yes("18: nothing happens", Seen.all(x).equals(before));
        x = Tell.town("town coin 1 purse 0 tax 0 trust 0 frost 0;tower holds 9;");
        Check.same("18: of nothing", x.cast(1, 0, 0, 0), -5);
        x = Tell.town("town coin 100 purse 100000 tax 0 trust 0 frost 0;tower holds 100000;");
        Check.same("18: a hundred coins", x.cast(10000, 0, 0, 0), 0);
        purseAndHeap("18: a hundred coins", x, 99900, 0);
    }

    private static void castTowerHolds() {
        BellMoney x = Tell.town("town coin 1 purse 1000 tax 0 trust 0 frost 0;tower holds 100;tower holds 10;"
                + "bell 40 tin 0 note 0 in 0;bell 30 tin 0 note 0 in 0 cracked;");
        Check.same("18: one ounce too many", x.cast(31, 0, 0, 0), -5);
        Check.same("18: of the other tower", x.cast(11, 0, 0, 1), -5);
        Check.same("18: no act", x.count(8), 0);
        Check.same("18: to the brim", x.cast(30, 0, 0, 0), 2);
        Check.same("18: not one more", x.cast(1, 0, 0, 0), -5);
        Check.same("18: to the brim", x.cast(10, 0, 0, 1), 3);
        x.melt(0);
        Check.same("18: what hangs there now", x.cast(41, 0, 0, 0), -5);
        Check.same("18: what hangs there now", x.cast(40, 0, 0, 0), 4);
    }

    private static void castTen() {
        BellMoney x = Tell.town(LookEdgeTest.FULL);
        Check.same("18: a ninth", x.cast(1, 0, 0, 0), 8);
        Check.same("18: a tenth", x.cast(1, 0, 0, 0), 9);
        String before = Seen.all(x);
        Check.same("18: there are ten", x.cast(1, 0, 0, 0), -5);
        Check.yes("18: nothing happens", Seen.all(x).equals(before));
        x.melt(0);
        Check.same("18: ten, hanging or not", x.cast(1, 0, 0, 0), -5);
        x.undo();
        x.undo();
        Check.same("18: nine", x.cast(2, 0, 0, 0), 9);
    }

    private static void castNoneSuchFirst() {
        BellMoney x = Tell.town("town coin 1 purse 0 tax 0 trust 0 frost 0;tower holds 1;");
        Check.same("18: not enough, does not hold it", x.cast(2, 0, 0, 0), -5);
        Check.same("18: -5 behind -2, tin", x.cast(2, 41, 0, 0), -2);
        Check.same("18: -5 behind -2, note", x.cast(2, 0, 12, 0), -2);
        Check.same("18: -5 behind -2, tower", x.cast(2, 0, 0, 1), -2);
        Check.same("18: -5 behind -2, ounces", x.cast(10001, 0, 0, 0), -2);
        x = Tell.town(LookEdgeTest.FULL);
        x.cast(1, 0, 0, 0);
        x.cast(1, 0, 0, 0);
        Check.same("18: ten, but none such first", x.cast(0, 0, 0, 0), -2);
    }

    private static void castUnderNoLaw() {
        BellMoney x = Tell.town(LookEdgeTest.bells(HEAD, 5, 5, 5, 5, 5, 5, 5, 5)
                + "keeps 0;keeps 7;after 1 7;after 7 1;after 6 0;");
        x.cast(20, 1, 1, 0);
        x.cast(20, 1, 1, 0);
        Check.same("III: not kept, behind none", x.why(8), 0);
        Check.same("III: not kept, behind none", x.why(9), 0);
        Check.same("III: hangs", x.bell(8, 4), 1);
        Check.same("III: not cracked", x.bell(8, 5), 0);
        x.cracks(9);
        x.undo();
        x.undo();
        x.cast(20, 1, 1, 0);
        Check.same("III: another one is not cracked", x.bell(9, 5), 0);
    }

    private static void yearIs(String what, BellMoney x, long purse, long debt, long trust) {
        Check.same(what + ", purse", x.now(1), purse);
        Check.same(what + ", debt", x.now(4), debt);
        Check.same(what + ", trust", x.now(3), trust);
    }

    private static void yearTaxFirst() {
        BellMoney x = Tell.town("town coin 1 purse 0 tax 10 trust 5 frost 0;due 10 in 0;");
        x.passes();
        yearIs("IV: paid of the tax", x, 0, 0, 6);
        x = Tell.town("town coin 1 purse 0 tax 0 trust 5 frost 0;");
        x.passes();
        yearIs("IV: no tax, no due", x, 0, 0, 6);
        x = Tell.town("town coin 1 purse 100000 tax 100000 trust 5 frost 0;");
        for (int year = 0; year < 20; year++) {
            x.passes();
        }
        yearIs("IV: the most", x, 2100000, 0, 9);
    }

    private static void yearJustPaid() {
        BellMoney x = Tell.town("town coin 1 purse 4 tax 5 trust 5 frost 0;due 10 in 0;");
        x.passes();
        yearIs("IV: one coin too few", x, 9, 20, 5);
        x = Tell.town("town coin 1 purse 5 tax 5 trust 5 frost 0;due 10 in 0;");
        x.passes();
        yearIs("IV: just so many", x, 0, 0, 6);
        x = Tell.town("town coin 1 purse 6 tax 0 trust 9 frost 0;due 11 in 0;");
        x.passes();
        yearIs("IV: its price, cut", x, 0, 0, 9);
    }

    private static void yearDebtFirst() {
        BellMoney x = Tell.town("town coin 1 purse 0 tax 20 trust 5 frost 0;due 18 in 0;due 3 in 0;due 17 in 1;");
        x.passes();
        yearIs("IV: 3 are not paid", x, 2, 6, 5);
        x.passes();
        yearIs("IV: 6 of debt first, 17 are not paid", x, 16, 34, 5);
    }

    private static void yearDuesAsTold() {
        BellMoney x = Tell.town("town coin 1 purse 20 tax 0 trust 5 frost 0;due 15 in 0;due 10 in 0;");
        x.passes();
        yearIs("IV: 15 first", x, 5, 20, 5);
        x = Tell.town("town coin 1 purse 20 tax 0 trust 5 frost 0;due 10 in 0;due 15 in 0;");
        x.passes();
        yearIs("IV: 10 first", x, 10, 30, 5);
        x = Tell.town("town coin 1 purse 20 tax 0 trust 5 frost 0;due 21 in 0;due 7 in 1;due 20 in 0;");
        x.passes();
        yearIs("IV: one that is not paid keeps none behind it", x, 0, 42, 5);
    }

    private static void yearDebtAsOne() {
        // 2 and 3 are not paid: a debt of 10, which 9 do not pay in part
        BellMoney x = Tell.town("town coin 1 purse 0 tax 0 trust 5 frost 0;tower holds 9;bell 9 tin 0 note 0 in 0;"
                + "due 2 in 0;due 3 in 0;");
        x.passes();
        yearIs("IV: two of them", x, 0, 10, 5);
        x.melt(0);
        x.passes();
        yearIs("IV: not in part", x, 9, 20, 5);
    }

    private static void yearDebtTwice() {
        BellMoney x = Tell.town("town coin 1 purse 0 tax 0 trust 0 frost 0;due 10 in 0;due 10 in 1;");
        x.passes();
        yearIs("IV: two times its price", x, 0, 30, 0);
        x.passes();
        yearIs("IV: two times both prices", x, 0, 2 * (45 + 15), 0);
        x = Tell.town("town coin 1 purse 0 tax 100 trust 5 frost 0;due 150 in 0;");
        x.passes();
        yearIs("IV: not paid", x, 100, 300, 5);
        x = Tell.town("town coin 1 purse 0 tax 7 trust 5 frost 0;due 6 in 0;due 2 in 0;");
        x.passes();
        yearIs("IV: 2 are not paid", x, 1, 4, 5);
        x.passes();
        yearIs("IV: debt is paid and gone", x, 4, 0, 6);
    }

    private static void yearPriceOfNothing() {
        BellMoney x = Tell.town("town coin 1 purse 0 tax 0 trust 6 frost 0;due 1 in 0;");
        x.passes();
        yearIs("IV: a price of 0 is paid", x, 0, 0, 7);
        x = Tell.town("town coin 1 purse 0 tax 0 trust 5 frost 0;due 1 in 0;");
        x.passes();
        yearIs("IV: a price of 1 is not", x, 0, 2, 5);
    }

    private static long trustBehind(int trust, String rest) {
        BellMoney x = Tell.town("town coin 1 purse 0 tax 0 trust " + trust + " frost 0;tower holds 9;tower holds 9;"
                + "bell 1 tin 0 note 0 in 0;" + rest);
        x.passes();
        return x.now(3);
    }

    private static void yearTrust() {
        Check.same("IV: no ward", trustBehind(5, "peal 0 1;"), 6);
        Check.same("IV: no peal", trustBehind(5, "ward 0;ward 1;"), 6);
        Check.same("IV: none misses", trustBehind(5, "ward 0;ward 0 1;peal 0;"), 6);
        Check.same("IV: one misses", trustBehind(5, "ward 0;ward 1;peal 0;"), 4);
        Check.same("IV: one misses three notes", trustBehind(5, "ward 0;peal 0 1 2 3;"), 4);
        Check.same("IV: two miss", trustBehind(5, "ward 1;ward 0;ward 1;peal 0;"), 3);
        Check.same("IV: four miss", trustBehind(5, "ward 1;ward 0;ward 1;ward 0;peal 1;"), 1);
        Check.same("IV: not paid", trustBehind(5, "due 5 in 0;"), 5);
        Check.same("IV: two not paid, one less", trustBehind(5, "due 5 in 0;due 6 in 0;"), 5);
        Check.same("IV: one misses, not paid", trustBehind(5, "ward 1;peal 0;due 5 in 0;"), 3);
        BellMoney x = Tell.town(PLAIN + "tower holds 9;bell 1 tin 0 note 0 in 0;ward 0;peal 0;");
        x.cracks(0);
        x.passes();
        Check.same("IV: a cracked one is not heard", x.now(3), 4);
        x.melt(0);
        x.passes();
        Check.same("IV: nor one that hangs no more", x.now(3), 3);
    }

    private static void yearTrustInTheEnd() {
        Check.same("IV: 9 at most", trustBehind(9, ""), 9);
        Check.same("IV: up to 9", trustBehind(8, ""), 9);
        Check.same("IV: 9 and one more and one less", trustBehind(9, "due 100 in 0;"), 9);
        Check.same("IV: 0 at least", trustBehind(0, "ward 1;peal 0;"), 0);
        Check.same("IV: down to 0", trustBehind(1, "ward 1;peal 0;"), 0);
        Check.same("IV: below 0 by far", trustBehind(1, "ward 1;ward 1;ward 1;ward 1;peal 0;due 9 in 0;"), 0);
        Check.same("IV: 0 and one more and one less", trustBehind(0, "due 9 in 0;"), 0);
        Check.same("IV: 5 less, of 5", trustBehind(5, "ward 1;ward 1;ward 1;ward 1;peal 0;due 9 in 0;"), 0);
        Check.same("IV: 5 less, of 6", trustBehind(6, "ward 1;ward 1;ward 1;ward 1;peal 0;due 9 in 0;"), 1);
    }

    private static void passesToTwenty() {
        BellMoney x = Tell.town(HEAD);
        for (int year = 1; year <= 20; year++) {
            Check.same("19: the one then", x.passes(), year);
        }
        String before = Seen.all(x);
        Check.same("19: above 20", x.passes(), -5);
        Check.yes("19: nothing happens", Seen.all(x).equals(before));
        x.undo();
        Check.same("19: 20 again", x.passes(), 20);
        Check.same("19: no town", new BellMoney().passes(), -2);
    }

    private static void cracksOnce() {
        BellMoney x = Tell.town(LookEdgeTest.FULL);
        x.cast(1, 0, 11, 0);
        Check.same("20: it cracks", x.cracks(0), 0);
        Check.same("20: the last", x.cracks(8), 0);
        Check.same("20: cracked now", x.bell(0, 5), 1);
        Check.same("20: hangs yet", x.now(5), 511);
        Check.same("20: rings no more", x.rings(), 254);
        Check.same("20: three acts", x.count(8), 3);
    }

    private static void cracksRefused() {
        BellMoney x = Tell.town(PLAIN + "tower holds 9;bell 1 tin 0 note 0 in 0;bell 1 tin 0 note 0 in 0 cracked;"
                + "bell 1 tin 0 note 0 in 0;");
        x.melt(0);
        x.cracks(2);
        String before = Seen.all(x);
        Check.same("20: does not hang", x.cracks(0), -5);
        Check.same("20: cracked as told", x.cracks(1), -5);
        Check.same("20: cracked by an act", x.cracks(2), -5);
        Check.same("20: a fourth", x.cracks(3), -2);
        for (int far : FAR) {
            Check.same("20: bell " + far, x.cracks(far), -2);
        }
        Check.yes("20: nothing happens", Seen.all(x).equals(before));
        Check.same("20: a town without bells", Tell.town(HEAD).cracks(0), -2);
    }

    private static void undoOneByOne() {
        BellMoney x = Tell.town(LookTest.TOWN);
        String[] seen = new String[5];
        seen[0] = Seen.town(x);
        x.melt(3);
        seen[1] = Seen.town(x);
        x.cast(25, 9, 9, 1);
        seen[2] = Seen.town(x);
        x.cracks(4);
        seen[3] = Seen.town(x);
        x.passes();
        for (int acts = 3; acts >= 0; acts--) {
            Check.same("21: how many there are", x.undo(), acts);
            Check.yes("21: as it was with " + acts, Seen.town(x).equals(seen[acts]));
        }
        Check.same("21: none", x.undo(), -5);
    }

    private static void undoRefused() {
        BellMoney x = Tell.town(LookTest.TOWN);
        Check.same("21: there is none", x.undo(), -5);
        x.melt(1);
        Check.same("21: what was refused is none", x.undo(), -5);
        Check.yes("21: nothing happens", Seen.town(x).equals(Seen.town(Tell.town(LookTest.TOWN))));
        Check.same("21: no town", new BellMoney().undo(), -2);
        x.passes();
        x.town();
        Check.same("21: no town any more", x.undo(), -2);
    }

    private static void anewAll() {
        BellMoney x = Tell.town(LookTest.TOWN);
        Check.same("22: none", x.anew(), 0);
        x.melt(0);
        x.melt(1);
        x.cast(33, 1, 1, 1);
        x.passes();
        Check.same("22: how many there were", x.anew(), 4);
        Check.yes("22: all taken back", Seen.town(x).equals(Seen.town(Tell.town(LookTest.TOWN))));
        Check.same("22: none", x.anew(), 0);
        Check.same("22: no town", new BellMoney().anew(), -2);
    }

    /** A town behind 38 acts, in year 19: bells 7 and 9 hang, 7 rings. */
    private static BellMoney busy() {
        BellMoney x = Tell.town("town coin 1 purse 100 tax 0 trust 5 frost 0;tower holds 9000;"
                + "bell 9 tin 0 note 0 in 0;".repeat(8));
        for (int year = 0; year < 18; year++) {
            x.passes();
        }
        for (int bell = 0; bell < 7; bell++) {
            x.cracks(bell);
            x.melt(bell);
        }
        x.passes();
        x.cast(9, 0, 0, 0);
        x.cast(9, 0, 0, 0);
        x.cracks(8);
        x.cracks(9);
        x.melt(8);
        Check.same("38 acts", x.count(8), 38);
        return x;
    }

    private static void fortyActs() {
        BellMoney x = busy();
        x.cracks(7);
        Check.same("the fortieth", x.passes(), 20);
        Check.same("forty acts", x.count(8), 40);
        x = busy();
        Check.same("20: the 39th", x.cracks(7), 0);
        Check.same("17: the fortieth", x.melt(9), 9);
        String before = Seen.all(x);
        Check.same("17: 40 acts", x.melt(7), -5);
        Check.same("17: none such all the same", x.melt(10), -2);
        Check.same("18: none such all the same", x.cast(0, 0, 0, 0), -2);
        Check.same("19: 40 acts", x.passes(), -5);
        Check.same("20: none such all the same", x.cracks(-1), -2);
        Check.yes("nothing happens", Seen.all(x).equals(before));
        Check.same("21: one is taken back", x.undo(), 39);
        Check.same("19: the fortieth", x.passes(), 20);
        Check.same("19: 40 acts", x.passes(), -5);
        Check.same("20: 40 acts, cracked", x.cracks(9), -5);
        Check.same("22: all", x.anew(), 40);
        Check.same("22: from the first on", x.now(5), 255);
        x = Tell.town("town coin 1 purse 100 tax 0 trust 5 frost 0;tower holds 9000;" + "bell 9 tin 0 note 0 in 0;".repeat(7));
        for (int year = 0; year < 20; year++) {
            x.passes();
        }
        for (int bell = 0; bell < 7; bell++) {
            x.cracks(bell);
            x.melt(bell);
        }
        x.cast(1, 0, 0, 0);
        x.cast(1, 0, 0, 0);
        x.cracks(7);
        x.melt(7);
        Check.same("38 acts", x.count(8), 38);
        x.cracks(8);
        Check.same("18: the fortieth", x.cast(1, 0, 0, 0), 9);
        Check.same("20: 40 acts", x.cracks(9), -5);
        Check.same("17: 40 acts", x.melt(9), -5);
        x.undo();
        x.melt(8);
        Check.same("18: 40 acts", x.cast(1, 0, 0, 0), -5);
    }

    private static void raiseBounds() {
        BellMoney x = Tell.town(LookEdgeTest.FULL);
        Check.same("57: what it was", x.raise(0, 1), 1000000);
        Check.same("57: what it was", x.raise(0, 1000000), 1);
        Check.same("57: the last", x.raise(11, 7), 1000000);
        Check.same("57: is so much", x.due(11, 1), 7);
        Check.same("57: its year stays", x.due(11, 0), 19);
        Check.same("57: others stay", x.due(10, 1), 1000000);
        Check.same("57: no act", x.count(8), 0);
        x.passes();
        x.anew();
        Check.same("57: from now on", x.due(11, 1), 7);
    }

    private static void raiseRefused() {
        BellMoney x = Tell.town(LookEdgeTest.FULL);
        Check.same("57: a thirteenth", x.raise(12, 1), -2);
        Check.same("57: 0", x.raise(0, 0), -2);
        Check.same("57: 1000001", x.raise(0, 1000001), -2);
        for (int far : FAR) {
            Check.same("57: due " + far, x.raise(far, 1), -2);
            Check.same("57: much " + far, x.raise(0, far), -2);
        }
        Check.same("57: as it was", x.due(0, 1), 1000000);
        x.passes();
        Check.same("57: there were acts", x.raise(0, 5), -5);
        Check.same("57: none such, with acts", x.raise(12, 5), -2);
        Check.same("57: none such, with acts", x.raise(0, 0), -2);
        Check.same("57: as it was", x.due(0, 1), 1000000);
        x.undo();
        Check.same("57: there are none", x.raise(0, 5), 1000000);
        Check.same("57: a town without dues", Tell.town(HEAD).raise(0, 5), -2);
        Check.same("57: no town", new BellMoney().raise(0, 5), -2);
    }

    private static void taxBounds() {
        BellMoney x = Tell.town(HEAD);
        Check.same("58: what it was", x.tax(0), 20);
        Check.same("58: what it was", x.tax(100000), 0);
        Check.same("58: is so much", x.count(5), 100000);
        Check.same("58: no act", x.count(8), 0);
        x.passes();
        Check.same("58: from now on", x.now(1), 100100);
        x.anew();
        Check.same("58: from now on", x.count(5), 100000);
        Check.same("58: what comes", x.rest(0), 100100);
    }

    private static void taxRefused() {
        BellMoney x = Tell.town(HEAD);
        Check.same("58: 100001", x.tax(100001), -2);
        for (int far : FAR) {
            Check.same("58: " + far, x.tax(far), -2);
        }
        x.passes();
        Check.same("58: there were acts", x.tax(5), -5);
        Check.same("58: none such, with acts", x.tax(-1), -2);
        Check.same("58: as it was", x.count(5), 20);
        x.undo();
        Check.same("58: there are none", x.tax(5), 20);
        Check.same("58: no town", new BellMoney().tax(5), -2);
    }

    private static void counts() {
        BellMoney x = Tell.town(LookEdgeTest.FULL);
        int[] due = {8, 4, 4, 12, 1, 100000, 100, 8, 0, 30, 0, 0};
        for (int what = 0; what <= 11; what++) {
            Check.same("59: count " + what, x.count(what), due[what]);
        }
        Check.same("59: 12", x.count(12), -1);
        for (int far : FAR) {
            Check.same("59: " + far, x.count(far), -1);
        }
        x.melt(0);
        x.cast(1, 0, 0, 0);
        Check.same("59: bells, hanging or not", x.count(0), 9);
        Check.same("59: acts", x.count(8), 2);
        for (int slot = 0; slot < 4; slot++) {
            x.row(slot, 0, slot);
            x.row(slot, 1, slot);
            Check.same("59: slots", x.count(11), slot + 1);
        }
    }

    private static void imageNoSuch() {
        BellMoney x = Tell.town(HEAD);
        Check.same("60: a fourth", x.image(3), -2);
        Check.same("61: a fourth", x.back(3), -2);
        for (int far : FAR) {
            Check.same("60: image " + far, x.image(far), -2);
            Check.same("61: image " + far, x.back(far), -2);
        }
        for (int k = 0; k < 3; k++) {
            Check.same("61: it has nothing", x.back(k), -6);
            Check.same("61: all stays", x.count(9), 1);
            Check.same("60: kept", x.image(k), 0);
            Check.same("61: back", x.back(k), 0);
        }
    }

    private static void imageKeepsTownAndActs() {
        BellMoney x = Tell.town(LookTest.TOWN);
        x.raise(1, 61);
        x.tax(21);
        String atFirst = Seen.town(x);
        x.melt(0);
        x.cast(44, 4, 4, 1);
        x.cracks(4);
        x.passes();
        String then = Seen.town(x);
        x.image(2);
        x.anew();
        x.raise(1, 62);
        x.tax(22);
        x.cast(55, 5, 5, 1);
        Tell.town(x, LookEdgeTest.FULL);
        x.melt(5);
        Check.same("61: back", x.back(2), 0);
        Check.yes("61: as it was", Seen.town(x).equals(then));
        Check.same("61: acts", x.count(8), 4);
        for (int acts = 3; acts >= 0; acts--) {
            Check.same("61: taken back", x.undo(), acts);
        }
        Check.yes("61: as at first", Seen.town(x).equals(atFirst));
        x.melt(3);
        Check.same("61: back again", x.back(2), 0);
        Check.yes("61: the image is as it was", Seen.town(x).equals(then));
        x = Tell.town(LookEdgeTest.bells(HEAD, 5, 5, 5, 5) + "keeps 0;after 1 2;least 3;");
        x.image(1);
        x.melt(3);
        then = Seen.town(x);
        x.image(0);
        Tell.town(x, LookEdgeTest.bells(HEAD, 5, 5, 5, 5));
        x.back(0);
        Check.yes("61: the law, too", Seen.town(x).equals(then));
        x.back(1);
        Check.same("61: four hang", x.may(), 12);
        x = busy();
        x.cracks(7);
        x.passes();
        x.image(0);
        x.anew();
        x.back(0);
        Check.same("61: forty acts", x.count(8), 40);
        Check.same("61: no more", x.melt(7), -5);
        Check.same("61: all taken back", x.anew(), 40);
    }

    private static void imageOfNoTown() {
        BellMoney x = new BellMoney();
        Check.same("60: no town is kept", x.image(1), 0);
        Tell.town(x, LookTest.TOWN);
        x.passes();
        Check.same("61: back to none", x.back(1), 0);
        TapeEdgeTest.noTown(x);
    }

    private static void imageInPlaceOfAnother() {
        BellMoney x = Tell.town(LookTest.TOWN);
        x.passes();
        x.image(0);
        x.passes();
        x.image(1);
        x.passes();
        x.image(0);
        x.back(1);
        Check.same("60: another image stays", x.now(0), 2);
        x.back(0);
        Check.same("60: the later one", x.now(0), 3);
        Check.same("60: the third has nothing", x.back(2), -6);
    }

    private static void backLeavesTheRest() {
        BellMoney x = Tell.town(HEAD + "tower holds 9;bell 1 tin 0 note 0 in 0;");
        x.image(0);
        Tell.plan(x, 3, 0, 0);
        Tell.town(x, "town coin 0");
        Check.same("61: back", x.back(0), 0);
        Check.same("61: the tape stays", x.count(10), 11);
        Check.same("61: slots stay", x.plan(3, 4), 0);
        Check.same("61: the fault stays", x.fault(1), 10);
    }
}
