/** Promises 46 to 56: years to come, notes, changes, frost. */
public final class YearTest {
    private static final String HEAD = "town coin 10 purse 100 tax 20 trust 5 frost 30;";

    public static void main(String[] args) {
        noTown();
        sundays();
        hears();
        debts();
        rests();
        notes();
        changes();
        frost();
        winters();
        Check.end();
    }

    private static void noTown() {
        BellMoney x = new BellMoney();
        int[] answers = {x.sundays(), x.broke(), x.hears(0), x.clear(), x.trust(0), x.rings(), x.note(0),
            x.changes(), x.drawn(0, 0), x.winters(0, 1)};
        for (int answer : answers) {
            Check.same("no town", answer, -2);
        }
        Check.same("no town", x.rest(0), -4000000000000000000L);
    }

    private static void sundays() {
        BellMoney x = Tell.town(LookTest.TOWN);
        Check.same("all years", x.sundays(), 20);
        x.passes();
        x.passes();
        Check.same("from now on", x.sundays(), 18);
        x.cracks(0);
        Check.same("none", x.sundays(), 0);
        x = Tell.town(HEAD);
        Check.same("no ward misses", x.sundays(), 20);
        for (int year = 0; year < 20; year++) {
            x.passes();
        }
        Check.same("no years to come", x.sundays(), 0);
        Check.same("no years to come", x.broke(), -1);
        Check.same("no years to come", x.clear(), -1);
        Check.same("no years to come", x.trust(20), -2);
    }

    private static void hears() {
        BellMoney x = Tell.town(LookTest.TOWN);
        Check.same("both", x.hears(0), 3);
        Check.same("ward 1", x.hears(1), 2);
        Check.same("cracked", x.hears(3), 0);
        Check.same("no such bell", x.hears(4), -2);
        Check.same("no such bell", x.hears(-1), -2);
        x.melt(0);
        Check.same("melted", x.hears(0), 0);
    }

    private static void debts() {
        Check.same("clear at first", Tell.town(HEAD).clear(), 0);
        Check.same("5 are not paid at first", Tell.town("town coin 10 purse 0 tax 50 trust 5 frost 0;"
                + "due 50 in 0;due 5 in 0;").clear(), 1);
        BellMoney x = Tell.town(LookTest.TOWN);
        Check.same("at once", x.broke(), 0);
        Check.same("never clear", x.clear(), -1);
        x.raise(0, 120);
        // all 120 go; then 20 and 20 are there for 60 and 40 at a trust of 7: 48 and 32
        Check.same("in year 2", x.broke(), 2);
        x.raise(1, 50);
        x.raise(2, 12);
        // 40 are there for 40 and 9
        Check.same("the second is not paid", x.broke(), 2);
        // 9 were not paid: 18 of debt, 14 by its price at a trust of 7, of 20
        Check.same("behind year 3 there is none", x.clear(), 3);
        Check.same("debt for a year", x.rest(2), 0 - 18);
        Check.same("paid", x.rest(3), 6);
        x.raise(1, 1);
        Check.same("all is paid", x.broke(), -1);
        Check.same("clear from the first on", x.clear(), 0);
        x.passes();
        Check.same("from now on", x.clear(), 1);
    }

    private static void rests() {
        BellMoney x = Tell.town(LookTest.TOWN);
        long[] due = {120 - 300, 140 - 600, 60 - 1200, 80 - 2400};
        for (int year = 0; year < 4; year++) {
            Check.same("rest", x.rest(year), due[year]);
            Check.same("trust", x.trust(year), 5);
        }
        Check.same("rest", x.rest(19), 400 - (150L << 20));
        Check.same("no such year", x.rest(20), -4000000000000000000L);
        Check.same("no such year", x.rest(-1), -4000000000000000000L);
        Check.same("no such year", x.trust(20), -2);
        Check.same("no such year", x.trust(-1), -2);
        x.passes();
        Check.same("it has passed", x.rest(0), -4000000000000000000L);
        Check.same("it has passed", x.trust(0), -2);
        Check.same("the one now", x.rest(1), due[1]);
        x.cracks(0);
        Check.same("two wards miss, and debt", x.trust(1), 2);
        Check.same("0 at least", x.trust(2), 0);
        x = Tell.town("town coin 1 purse 0 tax 0 trust 0 frost 0;due 1000000 in 0;due 1000000 in 0;due 1000000 in 0;"
                + "due 1000000 in 0;due 1000000 in 0;due 1000000 in 0;due 1000000 in 0;due 1000000 in 0;"
                + "due 1000000 in 0;due 1000000 in 0;due 1000000 in 0;due 1000000 in 0;");
        long debt = 12000000;
        for (int year = 0; year < 20; year++) {
            debt *= 3;
            Check.same("three times each year", x.rest(year), -debt);
        }
    }

    private static void notes() {
        BellMoney x = Tell.town(LookTest.TOWN);
        Check.same("0, 4 and 7", x.rings(), 1 + 16 + 128);
        Check.same("the cracked one hangs", x.note(4), 10);
        Check.same("none", x.note(1), 0);
        Check.same("no such note", x.note(12), -2);
        Check.same("no such note", x.note(-1), -2);
        x.cracks(1);
        Check.same("0 and 7", x.rings(), 1 + 128);
        Check.same("both hang", x.note(4), 10);
        x.melt(0);
        Check.same("7", x.rings(), 128);
        Check.same("gone", x.note(0), 0);
    }

    private static String ring(int... notes) {
        StringBuilder text = new StringBuilder(HEAD + "tower holds 1000;");
        for (int note : notes) {
            text.append("bell 9 tin 0 note ").append(note).append(" in 0;");
        }
        return text.toString();
    }

    private static void changes() {
        Check.same("none", Tell.town(ring()).changes(), 0);
        Check.same("one", Tell.town(ring(5)).changes(), 1);
        Check.same("a note away", Tell.town(ring(5, 6)).changes(), 0);
        Check.same("like ones are one", Tell.town(ring(5, 5)).changes(), 1);
        Check.same("two notes away", Tell.town(ring(5, 7)).changes(), 2);
        Check.same("first and last are not a note away", Tell.town(ring(0, 11)).changes(), 2);
        Check.same("three in a row", Tell.town(ring(1, 2, 3)).changes(), 0);
        Check.same("four in a row", Tell.town(ring(4, 1, 2, 3)).changes(), 2);
        Check.same("two and one", Tell.town(ring(1, 2, 9)).changes(), 2);
        Check.same("free ones", Tell.town(ring(1, 3, 5, 7)).changes(), 24);
        BellMoney x = Tell.town(ring(1, 3, 5, 7, 2));
        x.cracks(4);
        Check.same("those that ring", x.changes(), 24);
        x = Tell.town(ring(0, 1, 2, 3, 4, 5, 6, 7));
        Check.same("eight in a row", x.changes(), 5242);
        x.cast(9, 0, 8, 0);
        x.cast(9, 0, 9, 0);
        Check.same("ten in a row", x.changes(), 479306);
    }

    private static void frost() {
        BellMoney x = Tell.town(LookTest.TOWN);
        Check.same("no such seed", x.drawn(-1, 0), -2);
        Check.same("no such seed", x.drawn(2000000001, 0), -2);
        Check.same("no such what", x.drawn(1, 3), -2);
        Check.same("no such what", x.drawn(1, -1), -2);
        // from seed 1 this well known row draws 16838, 5758, 10113, 17515, 31051, 5627, 23010, 7419, 16212
        Tell.town(x, "town coin 1 purse 0 tax 0 trust 5 frost 14;tower holds 9;bell 1 tin 0 note 1 in 0;"
                + "bell 1 tin 0 note 2 in 0;bell 1 tin 0 note 3 in 0;ward 0;peal 3;");
        Check.same("bell 2 at once", x.drawn(1, 2), 0);
        Check.same("bell 2 is cracked", x.drawn(1, 0) & 4, 4);
        Check.same("no trust", x.drawn(1, 1), 0);
        Tell.town(x, "town coin 1 purse 0 tax 0 trust 5 frost 13;tower holds 9;bell 1 tin 0 note 1 in 0;"
                + "bell 1 tin 0 note 2 in 0;bell 1 tin 0 note 3 in 0;ward 0;peal 3;");
        Check.same("13 is not below 13, 12 is", x.drawn(1, 2), 2);
        Tell.town(x, "town coin 1 purse 0 tax 0 trust 5 frost 0;tower holds 9;bell 1 tin 0 note 1 in 0 cracked;"
                + "bell 1 tin 0 note 2 in 0;ward 0;peal 2;");
        Check.same("no frost, cracked as told", x.drawn(2000000000, 0), 1);
        Check.same("trust", x.drawn(0, 1), 9);
        Check.same("none missed", x.drawn(0, 2), -1);
        Tell.town(x, "town coin 1 purse 0 tax 0 trust 5 frost 100;tower holds 9;bell 1 tin 0 note 1 in 0;"
                + "bell 1 tin 0 note 2 in 0;ward 0;peal 2;");
        x.melt(0);
        x.passes();
        Check.same("what hangs cracks", x.drawn(7, 0), 2);
        Check.same("from now on", x.drawn(7, 2), 1);
        Check.same("trust", x.drawn(7, 1), 0);
        Check.same("nothing was done", x.bell(1, 5), 0);
    }

    private static void winters() {
        BellMoney x = Tell.town("town coin 1 purse 0 tax 10 trust 5 frost 5;tower holds 9;bell 1 tin 0 note 1 in 0;"
                + "ward 0;peal 1;due 120 in 19;");
        Check.same("no such n", x.winters(0, 0), -2);
        Check.same("no such n", x.winters(0, 21), -2);
        Check.same("no such seed", x.winters(-1, 1), -2);
        Check.same("no such seed", x.winters(2000000001, 1), -2);
        Check.same("always paid", x.winters(0, 20), 20);
        x.raise(0, 334);
        int good = 0;
        for (int seed = 5; seed < 25; seed++) {
            int one = x.winters(seed, 1);
            // at a trust of 9 the due's price is 200, which is all there is
            Check.same("one winter", one, x.drawn(seed, 1) == 9 ? 1 : 0);
            good += one;
        }
        Check.same("twenty", x.winters(5, 20), good);
        Check.yes("some are good, some are not", good > 0 && good < 20);
        x.raise(0, 335);
        Check.same("never paid", x.winters(5, 20), 0);
        Check.same("the last seed", x.winters(2000000000, 20), 0);
    }
}
