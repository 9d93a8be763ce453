/** Promises 6 to 16, sentence by sentence: the first and the last of each kind and those beside them. */
public final class LookEdgeTest {
    private static final String HEAD = "town coin 10 purse 100 tax 20 trust 5 frost 30;";
    private static final int[] FAR = {-1, -2, Integer.MIN_VALUE, Integer.MAX_VALUE};
    /** As many of everything as there may be, and as much. */
    static final String FULL = full();

    public static void main(String[] args) {
        bellAsTold();
        bellHangsNow();
        bellCrackedNow();
        bellNoneSuch();
        towerHolds();
        towerOuncesNow();
        towerBells();
        towerNoneSuch();
        wardTowers();
        wardHearsNow();
        wardMisses();
        wardNoneSuch();
        dueYearAndMuch();
        dueNoneSuch();
        fiftiethCut();
        wholeCoins();
        coinsNoneSuch();
        whyDoesNotHang();
        whyKept();
        whyFew();
        whyBehind();
        whyFirstOf();
        whyNoneSuch();
        mayBits();
        nowAtFirst();
        nowLater();
        nowNoneSuch();
        priceBounds();
        priceCut();
        askedOfTheYear();
        askedByPrice();
        askedDebt();
        askedNoTown();
        Check.end();
    }

    private static String full() {
        StringBuilder text = new StringBuilder("town coin 1 purse 100000 tax 100000 trust 9 frost 100;");
        text.append("tower holds 100000;".repeat(4));
        for (int bell = 0; bell < 8; bell++) {
            text.append("bell 10000 tin 40 note ").append(bell).append(" in ").append(bell % 4).append(';');
        }
        text.append("ward 0 1 2 3;".repeat(4)).append("peal 0 1 2 3 4 5 6 7;").append("due 1000000 in 19;".repeat(12));
        return text.toString();
    }

    /** A town with bells of so many ounces, of notes 0, 1, .., all in one tower. */
    static String bells(String head, int... ounces) {
        StringBuilder text = new StringBuilder(head).append("tower holds 100000;");
        for (int bell = 0; bell < ounces.length; bell++) {
            text.append("bell ").append(ounces[bell]).append(" tin 0 note ").append(bell).append(" in 0;");
        }
        return text.toString();
    }

    private static BellMoney tenBells() {
        BellMoney x = Tell.town(FULL);
        Check.same("a ninth", x.cast(10000, 40, 11, 3), 8);
        Check.same("a tenth", x.cast(1, 0, 0, 0), 9);
        return x;
    }

    private static void bellAsTold() {
        BellMoney x = tenBells();
        for (int bell = 0; bell < 8; bell++) {
            int[] due = {10000, 40, bell, bell % 4, 1, 0};
            for (int what = 0; what < 6; what++) {
                Check.same("6: bell " + bell + " what " + what, x.bell(bell, what), due[what]);
            }
        }
        int[][] due = {{10000, 40, 11, 3, 1, 0}, {1, 0, 0, 0, 1, 0}};
        for (int what = 0; what < 6; what++) {
            Check.same("6: cast bell 8 what " + what, x.bell(8, what), due[0][what]);
            Check.same("6: cast bell 9 what " + what, x.bell(9, what), due[1][what]);
        }
    }

    private static void bellHangsNow() {
        BellMoney x = Tell.town(HEAD + "tower holds 9;bell 9 tin 1 note 2 in 0;");
        Check.same("6: hangs", x.bell(0, 4), 1);
        x.melt(0);
        Check.same("6: hangs no more", x.bell(0, 4), 0);
        Check.same("6: its ounces yet", x.bell(0, 0), 9);
        Check.same("6: its tower yet", x.bell(0, 3), 0);
        x.undo();
        Check.same("6: hangs again", x.bell(0, 4), 1);
    }

    private static void bellCrackedNow() {
        BellMoney x = Tell.town(HEAD + "tower holds 9;bell 3 tin 1 note 2 in 0;bell 3 tin 1 note 2 in 0 cracked;");
        Check.same("6: sound", x.bell(0, 5), 0);
        Check.same("6: cracked as told", x.bell(1, 5), 1);
        x.cracks(0);
        Check.same("6: cracked now", x.bell(0, 5), 1);
        Check.same("6: it hangs yet", x.bell(0, 4), 1);
        x.undo();
        Check.same("6: sound again", x.bell(0, 5), 0);
    }

    private static void bellNoneSuch() {
        BellMoney x = tenBells();
        Check.same("6: an eleventh", x.bell(10, 0), -2);
        for (int far : FAR) {
            Check.same("6: bell " + far, x.bell(far, 0), -2);
            Check.same("6: what " + far, x.bell(0, far), -2);
        }
        Check.same("6: what 6", x.bell(0, 6), -2);
        x.undo();
        Check.same("6: taken back", x.bell(9, 0), -2);
        Check.same("6: the ninth is there", x.bell(8, 0), 10000);
        x = Tell.town(HEAD);
        Check.same("6: a town without bells", x.bell(0, 0), -2);
    }

    private static void towerHolds() {
        BellMoney x = Tell.town(HEAD + "tower holds 1;tower holds 2;tower holds 3;tower holds 100000;");
        int[] due = {1, 2, 3, 100000};
        for (int tower = 0; tower < 4; tower++) {
            Check.same("7: holds", x.tower(tower, 0), due[tower]);
        }
    }

    private static void towerOuncesNow() {
        BellMoney x = Tell.town(HEAD + "tower holds 90;tower holds 90;bell 7 tin 0 note 0 in 0;bell 8 tin 0 note 0 in 0;");
        Check.same("7: both", x.tower(0, 1), 15);
        Check.same("7: an empty one", x.tower(1, 1), 0);
        x.melt(0);
        Check.same("7: one now", x.tower(0, 1), 8);
        x.cast(20, 0, 0, 1);
        Check.same("7: a cast one too", x.tower(1, 1), 20);
        x.cracks(2);
        Check.same("7: a cracked one too", x.tower(1, 1), 20);
        x.melt(1);
        Check.same("7: none now", x.tower(0, 1), 0);
    }

    private static void towerBells() {
        BellMoney x = tenBells();
        int[] due = {1 + 16 + 512, 2 + 32, 4 + 64, 8 + 128 + 256};
        for (int tower = 0; tower < 4; tower++) {
            Check.same("7: bells of " + tower, x.tower(tower, 2), due[tower]);
        }
        x.melt(4);
        Check.same("7: one hangs no more", x.tower(0, 2), 1 + 512);
    }

    private static void towerNoneSuch() {
        BellMoney x = Tell.town(FULL);
        Check.same("7: the last", x.tower(3, 0), 100000);
        Check.same("7: a fifth", x.tower(4, 0), -2);
        for (int far : FAR) {
            Check.same("7: tower " + far, x.tower(far, 0), -2);
            Check.same("7: what " + far, x.tower(0, far), -2);
        }
        Check.same("7: what 3", x.tower(0, 3), -2);
        Check.same("7: a town without towers", Tell.town(HEAD).tower(0, 0), -2);
        Check.same("7: one told", Tell.town(HEAD + "tower holds 9;").tower(1, 0), -2);
    }

    private static void wardTowers() {
        BellMoney x = Tell.town(HEAD + "tower holds 1;".repeat(4) + "ward 3;ward 3 0;ward 2 1 0 3;ward 0;");
        int[] due = {8, 9, 15, 1};
        for (int ward = 0; ward < 4; ward++) {
            Check.same("8: towers of " + ward, x.ward(ward, 0), due[ward]);
        }
    }

    private static void wardHearsNow() {
        BellMoney x = Tell.town(HEAD + "tower holds 90;tower holds 90;bell 1 tin 0 note 0 in 0;bell 1 tin 0 note 11 in 0;"
                + "bell 1 tin 0 note 11 in 1;bell 1 tin 0 note 5 in 0 cracked;ward 0;ward 1;ward 0 1;");
        Check.same("8: its towers' notes", x.ward(0, 1), 1 + 2048);
        Check.same("8: its towers' notes", x.ward(1, 1), 2048);
        Check.same("8: of both once", x.ward(2, 1), 1 + 2048);
        x.cracks(2);
        Check.same("8: no cracked one", x.ward(1, 1), 0);
        Check.same("8: the other rings it yet", x.ward(2, 1), 1 + 2048);
        x.melt(0);
        Check.same("8: none that hangs no more", x.ward(0, 1), 2048);
        x.cast(1, 0, 9, 1);
        Check.same("8: a cast one", x.ward(1, 1), 512);
    }

    private static void wardMisses() {
        String text = HEAD + "tower holds 90;bell 1 tin 0 note 3 in 0;ward 0;";
        Check.same("8: no peal", Tell.town(text).ward(0, 2), 0);
        Check.same("8: it hears it", Tell.town(text + "peal 3;").ward(0, 2), 0);
        Check.same("8: it misses one", Tell.town(text + "peal 3 4;").ward(0, 2), 1);
        Check.same("8: all but one", Tell.town(text + "peal 0 1 2 3 4 5 6 7 8 9 10 11;").ward(0, 2), 11);
        BellMoney x = Tell.town(HEAD + "tower holds 90;ward 0;peal 0 1 2 3 4 5 6 7 8 9 10 11;");
        Check.same("8: all", x.ward(0, 2), 12);
        Check.same("8: it hears none", x.ward(0, 1), 0);
    }

    private static void wardNoneSuch() {
        BellMoney x = Tell.town(FULL);
        Check.same("8: the last", x.ward(3, 0), 15);
        Check.same("8: a fifth", x.ward(4, 0), -2);
        for (int far : FAR) {
            Check.same("8: ward " + far, x.ward(far, 0), -2);
            Check.same("8: what " + far, x.ward(0, far), -2);
        }
        Check.same("8: what 3", x.ward(0, 3), -2);
        Check.same("8: a town without wards", Tell.town(HEAD + "tower holds 1;").ward(0, 0), -2);
    }

    private static void dueYearAndMuch() {
        BellMoney x = Tell.town(HEAD + "due 1000000 in 19;due 1 in 0;");
        Check.same("9: year", x.due(0, 0), 19);
        Check.same("9: much", x.due(0, 1), 1000000);
        Check.same("9: year", x.due(1, 0), 0);
        Check.same("9: much", x.due(1, 1), 1);
        x.passes();
        Check.same("9: its year has passed", x.due(1, 1), 1);
    }

    private static void dueNoneSuch() {
        BellMoney x = Tell.town(FULL);
        Check.same("9: the last", x.due(11, 0), 19);
        Check.same("9: a thirteenth", x.due(12, 0), -2);
        for (int far : FAR) {
            Check.same("9: due " + far, x.due(far, 0), -2);
            Check.same("9: what " + far, x.due(0, far), -2);
        }
        Check.same("9: what 2", x.due(0, 2), -2);
        Check.same("9: a town without dues", Tell.town(HEAD).due(0, 0), -2);
    }

    private static void fiftiethCut() {
        int[] ounces = {1, 49, 50, 51, 99, 100, 9999, 10000};
        int[] left = {1, 49, 49, 50, 98, 98, 9800, 9800};
        BellMoney x = Tell.town(bells("town coin 1 purse 0 tax 0 trust 0 frost 0;", ounces));
        for (int bell = 0; bell < 8; bell++) {
            Check.same("II: left of " + ounces[bell], x.coins(bell), left[bell]);
            Check.same("II: none over", x.over(bell), 0);
        }
    }

    private static void wholeCoins() {
        BellMoney x = Tell.town(bells("town coin 100 purse 0 tax 0 trust 0 frost 0;", 1, 99, 101, 102, 103, 204, 10000));
        int[] coins = {0, 0, 0, 1, 1, 2, 98};
        int[] over = {1, 98, 99, 0, 1, 0, 0};
        for (int bell = 0; bell < 7; bell++) {
            Check.same("10: coins of " + x.bell(bell, 0), x.coins(bell), coins[bell]);
            Check.same("11: over of " + x.bell(bell, 0), x.over(bell), over[bell]);
        }
        x.melt(5);
        Check.same("10: of one that hangs no more", x.coins(5), 2);
        x.cracks(3);
        Check.same("10: of a cracked one", x.coins(3), 1);
    }

    private static void coinsNoneSuch() {
        BellMoney x = tenBells();
        Check.same("10: the last", x.coins(9), 1);
        Check.same("11: the last", x.over(9), 0);
        Check.same("10: an eleventh", x.coins(10), -2);
        Check.same("11: an eleventh", x.over(10), -2);
        for (int far : FAR) {
            Check.same("10: bell " + far, x.coins(far), -2);
            Check.same("11: bell " + far, x.over(far), -2);
        }
    }

    private static void whyDoesNotHang() {
        BellMoney x = Tell.town(bells(HEAD, 5, 5));
        Check.same("12: it may", x.why(0), 0);
        x.melt(0);
        Check.same("12: 1", x.why(0), 1);
        Check.same("12: the last one may", x.why(1), 0);
        x.melt(1);
        Check.same("12: 1", x.why(1), 1);
        Check.same("13: none", x.may(), 0);
    }

    private static void whyKept() {
        BellMoney x = Tell.town(bells(HEAD, 5, 5) + "keeps 1;");
        Check.same("12: 2", x.why(1), 2);
        Check.same("12: the other is not", x.why(0), 0);
        x.cracks(1);
        Check.same("12: cracked, 2 yet", x.why(1), 2);
    }

    private static void whyFew() {
        BellMoney x = Tell.town(bells(HEAD, 5, 5, 5) + "least 2;");
        Check.same("12: one more than the least", x.why(0), 0);
        x.melt(0);
        Check.same("12: as few as the least", x.why(1), 3);
        x = Tell.town(bells(HEAD, 5, 5, 5) + "least 4;");
        Check.same("12: fewer than the least", x.why(1), 3);
        x.cast(9, 0, 0, 0);
        Check.same("12: as few as the least, with a cast one", x.why(1), 3);
        x.cast(9, 0, 0, 0);
        Check.same("12: one more than the least, with cast ones", x.why(1), 0);
        Check.same("12: a cast one too", x.why(4), 0);
        x.melt(4);
        Check.same("12: the least counts for a cast one too", x.why(3), 3);
        x = Tell.town(bells(HEAD, 5) + "least 1;");
        Check.same("12: one hangs, and one is the least", x.why(0), 3);
        x = Tell.town(bells(HEAD, 5) + "least 0;");
        Check.same("12: none is the least", x.why(0), 0);
        x = Tell.town(bells(HEAD, 5, 5) + "least 1;");
        x.cracks(0);
        Check.same("12: a cracked one hangs too", x.why(1), 0);
    }

    private static void whyBehind() {
        BellMoney x = Tell.town(bells(HEAD, 5, 5, 5) + "after 0 2;");
        Check.same("12: 4", x.why(0), 4);
        x.cracks(2);
        Check.same("12: the other hangs yet", x.why(0), 4);
        x.melt(2);
        Check.same("12: free", x.why(0), 0);
        x.undo();
        Check.same("12: not free", x.why(0), 4);
    }

    private static void whyFirstOf() {
        BellMoney x = Tell.town(bells(HEAD, 5, 5, 5) + "keeps 0;after 0 1;after 1 2;least 3;");
        Check.same("12: 2 ahead of 3 and 4", x.why(0), 2);
        Check.same("12: 3 ahead of 4", x.why(1), 3);
        Check.same("12: 3", x.why(2), 3);
        x = Tell.town(bells(HEAD, 5, 5, 5) + "keeps 0;after 0 1;after 1 2;least 2;");
        Check.same("12: 2 ahead of 4", x.why(0), 2);
        Check.same("12: 4", x.why(1), 4);
        x.melt(2);
        Check.same("12: 1 ahead of 3", x.why(2), 1);
        Check.same("12: 3, no longer 4", x.why(1), 3);
    }

    private static void whyNoneSuch() {
        BellMoney x = tenBells();
        Check.same("12: the last", x.why(9), 0);
        Check.same("12: an eleventh", x.why(10), -2);
        for (int far : FAR) {
            Check.same("12: bell " + far, x.why(far), -2);
        }
        Check.same("12: a town without bells", Tell.town(HEAD).why(0), -2);
    }

    private static void mayBits() {
        Check.same("13: no bells", Tell.town(HEAD).may(), 0);
        BellMoney x = tenBells();
        Check.same("13: all ten", x.may(), 1023);
        x.melt(9);
        x.melt(0);
        Check.same("13: eight", x.may(), 510);
        Check.same("13: no town", new BellMoney().may(), -2);
        x = Tell.town(LookTest.TOWN + "keeps 0;keeps 1;keeps 2;keeps 3;");
        Check.same("13: all kept", x.may(), 0);
    }

    private static void nowAtFirst() {
        BellMoney x = Tell.town("town coin 1 purse 7 tax 8 trust 9 frost 0;");
        long[] due = {0, 7, 0, 9, 0, 0, 0};
        for (int what = 0; what <= 6; what++) {
            Check.same("14: at first, what " + what, x.now(what), due[what]);
        }
        x = Tell.town(FULL);
        Check.same("14: eight hang", x.now(5), 255);
        Check.same("14: no ward misses", x.now(6), 0);
        x = Tell.town(FULL + "peal 11;");
        Check.same("14: all wards miss", x.now(6), 15);
    }

    private static void nowLater() {
        BellMoney x = tenBells();
        Check.same("14: purse", x.now(1), 100000 - 10001);
        Check.same("14: ten hang", x.now(5), 1023);
        x.melt(0);
        Check.same("14: purse", x.now(1), 100000 - 10001 + 9800);
        // the tenth has note 0 too
        Check.same("14: no ward misses", x.now(6), 0);
        x.melt(9);
        Check.same("14: all wards miss note 0", x.now(6), 15);
        for (int year = 1; year <= 20; year++) {
            x.passes();
            Check.same("14: year", x.now(0), year);
        }
        // trust 9 5 1 0 ..; 12 dues of 1000000 by 15 tenths: one is paid of 2 million and some
        Check.same("14: trust", x.now(3), 0);
        Check.same("14: debt", x.now(4), 2L * 11 * 1500000);
        Check.same("14: purse", x.now(1), 100000 - 10001 + 9800 + 1 + 2000000 - 1500000);
    }

    private static void nowNoneSuch() {
        BellMoney x = Tell.town(FULL);
        Check.same("14: what 7", x.now(7), -2);
        for (int far : FAR) {
            Check.same("14: what " + far, x.now(far), -2);
        }
    }

    private static void priceBounds() {
        BellMoney x = new BellMoney();
        for (int turn = 0; turn < 2; turn++) {
            Check.same("15: nothing", x.price(0, 9), 0);
            Check.same("15: the most, no trust", x.price(1000000, 0), 1500000);
            Check.same("15: the most, all trust", x.price(1000000, 9), 600000);
            Check.same("15: too much", x.price(1000001, 9), -2);
            Check.same("15: too much trust", x.price(0, 10), -2);
            for (int far : FAR) {
                Check.same("15: price of " + far, x.price(far, 0), -2);
                Check.same("15: price at " + far, x.price(0, far), -2);
            }
            Tell.town(x, HEAD);
        }
    }

    private static void priceCut() {
        BellMoney x = new BellMoney();
        int[] ones = {1, 1, 1, 1, 1, 1, 0, 0, 0, 0};
        int[] nines = {13, 12, 11, 10, 9, 9, 8, 7, 6, 5};
        for (int trust = 0; trust <= 9; trust++) {
            Check.same("15: one at " + trust, x.price(1, trust), ones[trust]);
            Check.same("15: nine at " + trust, x.price(9, trust), nines[trust]);
            Check.same("15: ten at " + trust, x.price(10, trust), 15 - trust);
        }
    }

    private static void askedOfTheYear() {
        BellMoney x = Tell.town("town coin 1 purse 100 tax 0 trust 5 frost 0;due 3 in 0;due 4 in 1;due 5 in 0;due 9 in 19;");
        Check.same("16: of year 0", x.asked(), 8);
        x.passes();
        // a trust of 6: nine tenths of 4
        Check.same("16: of year 1", x.asked(), 3);
        x.passes();
        Check.same("16: none", x.asked(), 0);
        for (int year = 2; year < 19; year++) {
            x.passes();
        }
        Check.same("16: of year 19", x.asked(), 5);
        x.passes();
        Check.same("16: of year 20 there are none", x.asked(), 0);
    }

    private static void askedByPrice() {
        String dues = "due 1 in 0;".repeat(12);
        Check.same("16: each cut", Tell.town("town coin 1 purse 0 tax 0 trust 6 frost 0;" + dues).asked(), 0);
        Check.same("16: each cut", Tell.town("town coin 1 purse 0 tax 0 trust 5 frost 0;" + dues).asked(), 12);
        dues = "due 1000000 in 0;".repeat(12);
        Check.same("16: the most", Tell.town("town coin 1 purse 0 tax 0 trust 0 frost 0;" + dues).asked(), 18000000);
        BellMoney x = Tell.town("town coin 1 purse 0 tax 0 trust 0 frost 0;due 10 in 0;");
        x.raise(0, 20);
        Check.same("16: as raised", x.asked(), 30);
    }

    private static void askedDebt() {
        // 3 are not paid: 6 of debt; at a trust of 5 yet, with 7 more
        BellMoney x = Tell.town("town coin 1 purse 0 tax 0 trust 5 frost 0;due 3 in 0;due 7 in 1;");
        x.passes();
        Check.same("16: debt and due", x.asked(), 13);
        for (int year = 1; year < 20; year++) {
            x.passes();
        }
        Check.same("16: debt in year 20", x.asked(), x.now(4));
        // at no trust a debt of 12 million times 3, 20 times over, is asked one half more
        x = Tell.town("town coin 1 purse 0 tax 0 trust 0 frost 0;" + "due 1000000 in 0;".repeat(12));
        long debt = 12000000;
        for (int year = 0; year < 20; year++) {
            x.passes();
            debt *= 3;
        }
        Check.same("16: the most debt", x.asked(), debt / 2 * 3);
    }

    private static void askedNoTown() {
        Check.same("16: no town", new BellMoney().asked(), -2);
        Check.same("16: nothing to be paid", Tell.town(HEAD).asked(), 0);
    }
}
