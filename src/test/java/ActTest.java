/** Promises 17 to 22 and 57 to 61: acts, taken back; raise, tax, count, images. */
public final class ActTest {
    private static final String TOWN = LookTest.TOWN;

    public static void main(String[] args) {
        melt();
        cast();
        castRefused();
        years();
        trust();
        debtByPrice();
        cracks();
        takenBack();
        fortyActs();
        setAndCounted();
        images();
        Check.end();
    }

    private static void melt() {
        BellMoney x = Tell.town(TOWN);
        Check.same("no such bell", x.melt(4), -2);
        Check.same("no such bell", x.melt(-1), -2);
        Check.same("behind another", x.melt(1), -5);
        Check.same("kept", x.melt(2), -5);
        Check.same("no act yet", x.count(8), 0);
        Check.same("coins it gives", x.melt(0), 49);
        Check.same("gone", x.melt(0), -5);
        Check.same("coins it gives", x.melt(1), 9);
        Check.same("too few hang", x.melt(3), -5);
        Check.same("purse", x.now(1), 158);
        Check.same("heap", x.now(2), 8);
        Check.same("acts", x.count(8), 2);
        x = Tell.town("town coin 7 purse 1 tax 0 trust 0 frost 0;tower holds 999;bell 100 tin 0 note 0 in 0;");
        Check.same("of sevens", x.melt(0), 14);
        Check.same("none over", x.now(2), 0);
        x = Tell.town("town coin 9 purse 1 tax 0 trust 0 frost 0;tower holds 999;bell 100 tin 0 note 0 in 0;");
        Check.same("of nines", x.melt(0), 10);
        Check.same("eight over", x.now(2), 8);
        Check.same("purse", x.now(1), 11);
    }

    private static void cast() {
        BellMoney x = Tell.town(TOWN);
        Check.same("of coins", x.cast(55, 0, 0, 1), 4);
        Check.same("six coins went", x.now(1), 94);
        Check.same("five ounces over", x.now(2), 5);
        Check.same("of the heap alone", x.cast(5, 40, 11, 0), 5);
        Check.same("no coin went", x.now(1), 94);
        Check.same("the heap is gone", x.now(2), 0);
        Check.same("just as many as needed", x.cast(10, 40, 11, 0), 6);
        Check.same("one coin went", x.now(1), 93);
        Check.same("nothing over", x.now(2), 0);
        int[] due = {5, 40, 11, 0, 1, 0};
        for (int what = 0; what < 6; what++) {
            Check.same("the new one, what " + what, x.bell(5, what), due[what]);
        }
        Check.same("hang", x.now(5), 127);
        Check.same("it may be melted", x.why(4), 0);
        Check.same("coins of it", x.melt(4), 5);
        Check.same("bells", x.count(0), 7);
        x = Tell.town(TOWN);
        x.melt(3);
        Check.same("heap and coins", x.cast(20, 1, 1, 1), 4);
        Check.same("two coins went", x.now(1), 109);
        Check.same("heap", x.now(2), 8);
        x = Tell.town(TOWN + "least 4;");
        Check.same("of coins", x.cast(50, 0, 0, 1), 4);
        Check.same("more than the least hang", x.why(4), 0);
        x.melt(4);
        Check.same("as few as the least", x.why(0), 3);
        x.undo();
        x.melt(3);
        Check.same("the least counts for a cast one too", x.why(4), 3);
    }

    private static void castRefused() {
        BellMoney x = Tell.town(TOWN);
        Check.same("no such ounces", x.cast(0, 1, 1, 1), -2);
        Check.same("no such ounces", x.cast(10001, 1, 1, 1), -2);
        Check.same("no such tin", x.cast(10, -1, 1, 1), -2);
        Check.same("no such tin", x.cast(10, 41, 1, 1), -2);
        Check.same("no such note", x.cast(10, 1, -1, 1), -2);
        Check.same("no such note", x.cast(10, 1, 12, 1), -2);
        Check.same("no such tower", x.cast(10, 1, 1, 2), -2);
        Check.same("no such tower", x.cast(10, 1, 1, -1), -2);
        Check.same("not enough, but none such first", x.cast(10000, 41, 1, 1), -2);
        Check.same("not enough", x.cast(10000, 40, 1, 1), -5);
        Check.same("the tower does not hold it", x.cast(81, 1, 1, 0), -5);
        Check.same("it holds so much", x.cast(80, 1, 1, 0), 4);
        x = Tell.town("town coin 10 purse 5 tax 0 trust 0 frost 0;tower holds 1000;");
        Check.same("one too many", x.cast(51, 1, 1, 0), -5);
        Check.same("all of the purse", x.cast(50, 1, 1, 0), 0);
        Check.same("purse", x.now(1), 0);
        x = Tell.town("town coin 10 purse 500 tax 0 trust 0 frost 0;tower holds 1000;");
        for (int bell = 0; bell < 10; bell++) {
            Check.same("cast", x.cast(10, 1, 1, 0), bell);
        }
        Check.same("there are ten", x.cast(10, 1, 1, 0), -5);
        x.melt(0);
        Check.same("there are ten, hanging or not", x.cast(10, 1, 1, 0), -5);
        Check.same("acts", x.count(8), 11);
    }

    private static void years() {
        BellMoney x = Tell.town(TOWN);
        long[][] due = {{1, 120, 5, 300}, {2, 140, 5, 600}, {3, 60, 5, 1200}, {4, 80, 5, 2400}};
        for (long[] row : due) {
            Check.same("year", x.passes(), row[0]);
            Check.same("purse", x.now(1), row[1]);
            Check.same("trust", x.now(3), row[2]);
            Check.same("debt", x.now(4), row[3]);
        }
        for (int year = 5; year <= 20; year++) {
            Check.same("year", x.passes(), year);
        }
        Check.same("above 20", x.passes(), -5);
        Check.same("year", x.now(0), 20);
        Check.same("acts", x.count(8), 20);
    }

    private static void trust() {
        BellMoney x = Tell.town("town coin 1 purse 0 tax 0 trust 8 frost 0;tower holds 9;tower holds 9;"
                + "bell 1 tin 0 note 3 in 0;ward 0;ward 1;ward 0 1;peal 3;");
        x.passes();
        Check.same("one ward misses it", x.now(3), 7);
        x.cracks(0);
        x.passes();
        Check.same("three do", x.now(3), 4);
        x.passes();
        x.passes();
        Check.same("0 at least", x.now(3), 0);
        x = Tell.town("town coin 1 purse 0 tax 0 trust 9 frost 0;due 100 in 0;");
        x.passes();
        Check.same("one more and one less, then 9 at most", x.now(3), 9);
        Check.same("debt", x.now(4), 120);
        x = Tell.town("town coin 1 purse 0 tax 0 trust 9 frost 0;");
        x.passes();
        Check.same("9 at most", x.now(3), 9);
        x = Tell.town("town coin 1 purse 0 tax 0 trust 0 frost 0;tower holds 9;ward 0;peal 1;due 5 in 0;");
        x.passes();
        Check.same("two less, 0 at least", x.now(3), 0);
    }

    /** What is not paid is a price: at a trust of 0 it is one half more. */
    private static void debtByPrice() {
        BellMoney x = Tell.town("town coin 1 purse 0 tax 1000 trust 0 frost 0;due 900 in 0;due 600 in 0;due 400 in 1;");
        x.passes();
        Check.same("the second is paid", x.now(1), 100);
        Check.same("two times 1350", x.now(4), 2700);
        Check.same("no more trust", x.now(3), 0);
        x.passes();
        Check.same("debt is not paid, the due is", x.now(1), 500);
        Check.same("two times 4050", x.now(4), 8100);
        x = Tell.town("town coin 1 purse 99 tax 1 trust 5 frost 0;due 100 in 0;due 1 in 0;");
        x.passes();
        Check.same("paid to the last coin", x.now(1), 0);
        Check.same("the other is not", x.now(4), 2);
        x.passes();
        Check.same("one coin of tax is not enough", x.now(4), 4);
        x = Tell.town("town coin 1 purse 0 tax 0 trust 9 frost 0;due 1 in 0;");
        x.passes();
        Check.same("a price of 0 is paid", x.now(4), 0);
    }

    private static void cracks() {
        BellMoney x = Tell.town(TOWN);
        Check.same("no such bell", x.cracks(4), -2);
        Check.same("no such bell", x.cracks(-1), -2);
        Check.same("cracked already", x.cracks(3), -5);
        Check.same("cracks", x.cracks(0), 0);
        Check.same("cracked already", x.cracks(0), -5);
        x.melt(0);
        x.melt(1);
        Check.same("does not hang", x.cracks(1), -5);
        Check.same("acts", x.count(8), 3);
    }

    private static void takenBack() {
        BellMoney x = Tell.town(TOWN);
        Check.same("there is none", x.undo(), -5);
        Check.same("all of none", x.anew(), 0);
        x.melt(3);
        x.cast(20, 9, 9, 1);
        x.cracks(4);
        x.passes();
        Check.same("year", x.undo(), 3);
        Check.same("year", x.now(0), 0);
        Check.same("debt", x.now(4), 0);
        Check.same("crack", x.undo(), 2);
        Check.same("rings", x.bell(4, 5), 0);
        x.cracks(4);
        x.undo();
        Check.same("cast", x.undo(), 1);
        Check.same("no such bell", x.bell(4, 0), -2);
        Check.same("purse", x.now(1), 111);
        Check.same("heap", x.now(2), 8);
        x.cast(30, 8, 8, 1);
        Check.same("another one", x.bell(4, 1), 8);
        Check.same("not cracked", x.bell(4, 5), 0);
        Check.same("how many there were", x.anew(), 2);
        Check.same("purse", x.now(1), 100);
        Check.same("hang", x.now(5), 15);
        Check.same("acts", x.count(8), 0);
        Check.same("bells", x.count(0), 4);
    }

    private static void fortyActs() {
        BellMoney x = Tell.town("town coin 1 purse 100000 tax 0 trust 0 frost 0;tower holds 1000;"
                + "bell 1 tin 0 note 0 in 0;bell 1 tin 0 note 0 in 0;");
        for (int year = 1; year <= 20; year++) {
            x.passes();
        }
        for (int bell = 2; bell < 9; bell++) {
            x.cast(1, 0, 0, 0);
        }
        for (int bell = 0; bell < 8; bell++) {
            x.cracks(bell);
        }
        for (int bell = 2; bell < 7; bell++) {
            x.melt(bell);
        }
        Check.same("acts", x.count(8), 40);
        Check.same("no more", x.melt(0), -5);
        Check.same("no more", x.cast(1, 0, 0, 0), -5);
        Check.same("no more", x.cracks(8), -5);
        Check.same("no more", x.passes(), -5);
        Check.same("none such yet", x.melt(9), -2);
        Check.same("acts", x.count(8), 40);
        Check.same("back", x.undo(), 39);
        Check.same("one more", x.melt(0), 1);
        Check.same("all", x.anew(), 40);
        Check.same("year", x.now(0), 0);
    }

    private static void setAndCounted() {
        BellMoney x = Tell.town(TOWN);
        Check.same("no such due", x.raise(3, 5), -2);
        Check.same("no such due", x.raise(-1, 5), -2);
        Check.same("no such sum", x.raise(0, 0), -2);
        Check.same("no such sum", x.raise(0, 1000001), -2);
        Check.same("what it was", x.raise(0, 1000000), 150);
        Check.same("what it is", x.due(0, 1), 1000000);
        Check.same("what it was", x.raise(0, 10), 1000000);
        Check.same("asked", x.asked(), 10);
        Check.same("no such tax", x.tax(-1), -2);
        Check.same("no such tax", x.tax(100001), -2);
        Check.same("what it was", x.tax(100000), 20);
        Check.same("what it was", x.tax(0), 100000);
        x.passes();
        Check.same("purse", x.now(1), 90);
        Check.same("there were acts", x.raise(0, 5), -5);
        Check.same("none such", x.raise(9, 5), -2);
        Check.same("there were acts", x.tax(5), -5);
        Check.same("none such", x.tax(-5), -2);
        x.anew();
        Check.same("raised yet", x.due(0, 1), 10);
        Check.same("free again", x.tax(5), 0);
        x.row(1, 0, 0);
        x.melt(0);
        x.feed(0, 0, 0, 0, 0);
        int[] due = {4, 2, 2, 3, 10, 5, 30, 2, 1, 16, 20, 1};
        for (int what = 0; what < 12; what++) {
            Check.same("count " + what, x.count(what), due[what]);
        }
        Check.same("no such count", x.count(12), -1);
        Check.same("no such count", x.count(-1), -1);
    }

    private static void images() {
        BellMoney x = new BellMoney();
        Check.same("no such image", x.image(3), -2);
        Check.same("no such image", x.image(-1), -2);
        Check.same("no such image", x.back(3), -2);
        Check.same("no such image", x.back(-1), -2);
        Check.same("it has nothing", x.back(2), -6);
        Check.same("no town is kept", x.image(2), 0);
        Tell.town(x, TOWN);
        x.raise(1, 77);
        x.melt(0);
        x.cast(40, 3, 3, 1);
        Check.same("kept", x.image(0), 0);
        x.passes();
        x.undo();
        x.undo();
        x.cast(60, 4, 4, 0);
        x.melt(1);
        Check.same("kept", x.image(1), 0);
        Check.same("back", x.back(0), 0);
        Check.same("acts", x.count(8), 2);
        Check.same("its bell", x.bell(4, 0), 40);
        Check.same("its due", x.due(1, 1), 77);
        Check.same("taken back", x.undo(), 1);
        Check.same("taken back", x.undo(), 0);
        Check.same("purse", x.now(1), 100);
        Check.same("back again", x.back(0), 0);
        Check.same("acts", x.count(8), 2);
        Check.same("back", x.back(1), 0);
        Check.same("its bell", x.bell(4, 0), 60);
        Check.same("acts", x.count(8), 3);
        x.feed(1, 2, 3, 4, 5);
        x.row(0, 0, 5);
        Check.same("back to no town", x.back(2), 0);
        Check.same("no town", x.now(0), -2);
        Check.same("no bells", x.count(0), 0);
        Check.same("no acts", x.count(8), 0);
        Check.same("the tape is as it was", x.count(10), 20);
        Check.same("slots are as they were", x.count(11), 1);
        Check.same("back to a town", x.back(0), 0);
        Check.same("purse", x.now(1), 100 + 49 - 4);
    }
}
