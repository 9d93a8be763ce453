/** Promises 6 to 16: what is told and how it is now, coins, why not, price. */
public final class LookTest {
    static final String TOWN = "town coin 10 purse 100 tax 20 trust 5 frost 30;"
            + "tower holds 1000;tower holds 600;"
            + "bell 500 tin 22 note 0 in 0;"
            + "bell 100 tin 20 note 4 in 1;"
            + "bell 300 tin 25 note 7 in 0;"
            + "bell 120 tin 10 note 4 in 0 cracked;"
            + "ward 0;ward 1 0 1;peal 0 7;"
            + "due 150 in 0;due 60 in 2;due 40 in 2;"
            + "keeps 2;least 2;after 1 0;";

    public static void main(String[] args) {
        bells();
        towersAndWards();
        dues();
        coins();
        whyNot();
        state();
        prices();
        Check.end();
    }

    private static void bells() {
        BellMoney x = Tell.town(TOWN);
        long[][] due = {{500, 22, 0, 0, 1, 0}, {100, 20, 4, 1, 1, 0}, {300, 25, 7, 0, 1, 0}, {120, 10, 4, 0, 1, 1}};
        for (int bell = 0; bell < 4; bell++) {
            for (int what = 0; what < 6; what++) {
                Check.same("bell " + bell + " what " + what, x.bell(bell, what), due[bell][what]);
            }
            Check.same("no such what", x.bell(bell, 6), -2);
            Check.same("no such what", x.bell(bell, -1), -2);
        }
        Check.same("no such bell", x.bell(4, 0), -2);
        Check.same("no such bell", x.bell(-1, 0), -2);
        Check.same("no such bell", x.bell(Integer.MIN_VALUE, 0), -2);
        x.melt(3);
        Check.same("melted, does not hang", x.bell(3, 4), 0);
        Check.same("melted, its ounces", x.bell(3, 0), 120);
        x.cracks(2);
        Check.same("cracked now", x.bell(2, 5), 1);
        Check.same("hangs yet", x.bell(2, 4), 1);
    }

    private static void towersAndWards() {
        BellMoney x = Tell.town(TOWN);
        Check.same("holds", x.tower(0, 0), 1000);
        Check.same("hangs there", x.tower(0, 1), 920);
        Check.same("bells there", x.tower(0, 2), 13);
        Check.same("holds", x.tower(1, 0), 600);
        Check.same("hangs there", x.tower(1, 1), 100);
        Check.same("bells there", x.tower(1, 2), 2);
        Check.same("no such what", x.tower(1, 3), -2);
        Check.same("no such what", x.tower(1, -1), -2);
        Check.same("no such tower", x.tower(2, 0), -2);
        Check.same("no such tower", x.tower(-1, 0), -2);
        Check.same("towers heard", x.ward(0, 0), 1);
        Check.same("towers heard", x.ward(1, 0), 3);
        Check.same("notes heard", x.ward(0, 1), 129);
        Check.same("notes heard", x.ward(1, 1), 145);
        Check.same("none missed", x.ward(0, 2), 0);
        Check.same("no such what", x.ward(0, 3), -2);
        Check.same("no such what", x.ward(0, -1), -2);
        Check.same("no such ward", x.ward(2, 0), -2);
        Check.same("no such ward", x.ward(-1, 0), -2);
        x.cracks(0);
        Check.same("notes heard", x.ward(0, 1), 128);
        Check.same("one missed", x.ward(0, 2), 1);
        x.cracks(2);
        Check.same("two missed", x.ward(1, 2), 2);
        x.melt(0);
        Check.same("hangs there", x.tower(0, 1), 420);
        Check.same("bells there", x.tower(0, 2), 12);
    }

    private static void dues() {
        BellMoney x = Tell.town(TOWN);
        Check.same("year", x.due(0, 0), 0);
        Check.same("how much", x.due(0, 1), 150);
        Check.same("year", x.due(2, 0), 2);
        Check.same("how much", x.due(2, 1), 40);
        Check.same("no such what", x.due(0, 2), -2);
        Check.same("no such what", x.due(0, -1), -2);
        Check.same("no such due", x.due(3, 0), -2);
        Check.same("no such due", x.due(-1, 0), -2);
    }

    private static void coins() {
        BellMoney x = Tell.town(TOWN);
        int[] coins = {49, 9, 29, 11};
        int[] over = {0, 8, 4, 8};
        for (int bell = 0; bell < 4; bell++) {
            Check.same("coins", x.coins(bell), coins[bell]);
            Check.same("over", x.over(bell), over[bell]);
        }
        x.melt(3);
        Check.same("coins of a melted one", x.coins(3), 11);
        Check.same("no such bell", x.coins(4), -2);
        Check.same("no such bell", x.over(4), -2);
        Check.same("no such bell", x.coins(-1), -2);
        Check.same("no such bell", x.over(-1), -2);
        x = Tell.town("town coin 7 purse 0 tax 0 trust 0 frost 0;tower holds 100000;bell 49 tin 0 note 0 in 0;"
                + "bell 50 tin 0 note 0 in 0;bell 99 tin 0 note 0 in 0;bell 100 tin 0 note 0 in 0;"
                + "bell 5 tin 0 note 0 in 0;bell 10000 tin 0 note 0 in 0;");
        int[] left = {49, 49, 98, 98, 5, 9800};
        for (int bell = 0; bell < 6; bell++) {
            Check.same("coins of sevens", x.coins(bell), left[bell] / 7);
            Check.same("over sevens", x.over(bell), left[bell] % 7);
        }
    }

    private static void whyNot() {
        BellMoney x = Tell.town(TOWN);
        Check.same("it may", x.why(0), 0);
        Check.same("behind another", x.why(1), 4);
        Check.same("kept", x.why(2), 2);
        Check.same("a cracked one may", x.why(3), 0);
        Check.same("may", x.may(), 9);
        Check.same("no such bell", x.why(4), -2);
        Check.same("no such bell", x.why(-1), -2);
        x.melt(0);
        Check.same("hangs no more", x.why(0), 1);
        Check.same("free then", x.why(1), 0);
        Check.same("may", x.may(), 10);
        x.melt(1);
        Check.same("as few as the least", x.why(3), 3);
        Check.same("kept ahead of few", x.why(2), 2);
        Check.same("gone ahead of all", x.why(1), 1);
        Check.same("none may", x.may(), 0);
        x = Tell.town(TOWN + "least 10;");
        Check.same("fewer than the least, ahead of another", x.why(1), 3);
        Check.same("few, behind kept", x.why(2), 2);
    }

    private static void state() {
        BellMoney x = Tell.town(TOWN);
        long[] due = {0, 100, 0, 5, 0, 15, 0};
        for (int what = 0; what < 7; what++) {
            Check.same("now " + what, x.now(what), due[what]);
        }
        Check.same("no such what", x.now(7), -2);
        Check.same("no such what", x.now(-1), -2);
        x.melt(3);
        Check.same("purse", x.now(1), 111);
        Check.same("heap", x.now(2), 8);
        Check.same("hang", x.now(5), 7);
        x.cracks(0);
        Check.same("wards that miss", x.now(6), 3);
        x = Tell.town(TOWN + "peal 4;");
        Check.same("one ward misses", x.now(6), 1);
        x = Tell.town("town coin 1 purse 2 tax 3 trust 4 frost 5;tower holds 5;ward 0;");
        Check.same("without a peal none misses", x.now(6), 0);
    }

    private static void prices() {
        BellMoney x = new BellMoney();
        Check.same("price", x.price(100, 5), 100);
        Check.same("price", x.price(100, 0), 150);
        Check.same("price cut", x.price(7, 8), 4);
        Check.same("price cut", x.price(1, 9), 0);
        Check.same("price cut", x.price(1, 0), 1);
        Check.same("price of nothing", x.price(0, 0), 0);
        Check.same("price of the most", x.price(1000000, 0), 1500000);
        Check.same("too much", x.price(1000001, 0), -2);
        Check.same("below 0", x.price(-1, 0), -2);
        Check.same("no such trust", x.price(1, 10), -2);
        Check.same("no such trust", x.price(1, -1), -2);
        x = Tell.town(TOWN);
        Check.same("asked", x.asked(), 150);
        x.passes();
        Check.same("debt asked", x.asked(), 300);
        x.passes();
        Check.same("debt and dues asked", x.asked(), 700);
        x = Tell.town("town coin 1 purse 0 tax 0 trust 8 frost 0;due 7 in 0;due 9 in 0;due 5 in 1;");
        Check.same("each cut for itself", x.asked(), 4 + 6);
    }
}
