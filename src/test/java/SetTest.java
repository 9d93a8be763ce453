/** Promises 24 to 45: sets of bells, silence, alloys, towers that hold, sums. */
public final class SetTest {
    private static final String HEAD = "town coin 10 purse 100 tax 20 trust 5 frost 30;";

    public static void main(String[] args) {
        noTown();
        enough();
        loud();
        lawful();
        silence();
        alloys();
        casts();
        tested();
        holds();
        fills();
        sums();
        Check.end();
    }

    private static void noTown() {
        BellMoney x = new BellMoney();
        int[] answers = {x.enough(), x.melted(), x.ounces(), x.lightest(), x.loud(), x.loudly(), x.lawful(0),
            x.silent(), x.silence(), x.guarded(), x.alloy(0, 0), x.casts(1, 0, 40), x.castOf(1, 0, 40),
            x.tested(0, -1), x.sure(0, -1, 0), x.few(0, -1), x.hold(), x.held(), x.fills(0), x.filled(0),
            x.pays(0), x.paid(0)};
        for (int answer : answers) {
            Check.same("no town", answer, -2);
        }
    }

    private static void enough() {
        // 150 are due; 100 and 20 are there: 30 are missing, coins are 49, 9, 29, 11
        BellMoney x = Tell.town(LookTest.TOWN + "peal 4;least 0;");
        x.raise(1, 1);
        x.raise(2, 1);
        Check.same("bell 0 alone", x.enough(), 1);
        Check.same("bell 0 alone", x.melted(), 1);
        Check.same("its ounces", x.ounces(), 500);
        Check.same("the lightest", x.lightest(), 1);
        x.raise(0, 120);
        Check.same("none needed", x.enough(), 0);
        Check.same("none needed", x.melted(), 0);
        Check.same("none needed", x.ounces(), 0);
        Check.same("none needed", x.lightest(), 0);
        x.raise(0, 180);
        Check.same("60 missing", x.enough(), 2);
        Check.same("not 0 and 1", x.melted(), 9);
        x.raise(0, 178);
        Check.same("58 missing", x.melted(), 3);
        Check.same("58 missing", x.lightest(), 3);
        x.raise(0, 200);
        Check.same("not enough without the kept one", x.enough(), -1);
        Check.same("none", x.melted(), -1);
        Check.same("none", x.ounces(), -1);
        Check.same("none", x.lightest(), -1);
        x = Tell.town(HEAD + "tower holds 9000;bell 200 tin 0 note 0 in 0;bell 90 tin 0 note 0 in 0;"
                + "bell 110 tin 0 note 0 in 0;bell 90 tin 0 note 0 in 0;due 136 in 0;");
        Check.same("one of 19", x.enough(), 1);
        Check.same("one of 19", x.melted(), 1);
        Check.same("two are lighter", x.ounces(), 200 - 20);
        Check.same("those of 90", x.lightest(), 10);
        for (int year = 0; year < 20; year++) {
            x.passes();
        }
        Check.same("no years to come", x.enough(), 0);
        Check.same("no years to come", x.lightest(), 0);
    }

    private static void loud() {
        BellMoney x = Tell.town(HEAD + "tower holds 9000;bell 500 tin 0 note 1 in 0;bell 500 tin 0 note 1 in 0;"
                + "bell 500 tin 0 note 2 in 0;bell 600 tin 0 note 3 in 0;ward 0;peal 1 2;due 160 in 0;");
        Check.same("9 with any 40 coins", x.loud(), 9);
        Check.same("the least", x.loudly(), 1);
        x = Tell.town(HEAD + "tower holds 9000;bell 500 tin 0 note 1 in 0;ward 0;peal 1;");
        Check.same("9 with none", x.loud(), 9);
        Check.same("none", x.loudly(), 0);
        x = Tell.town(HEAD + "tower holds 9000;bell 500 tin 0 note 1 in 0;ward 0;peal 1 2;");
        Check.same("0 whatever is done", x.loud(), 0);
        Check.same("the fewest", x.loudly(), 0);
        x.passes();
        for (int year = 1; year < 20; year++) {
            x.passes();
        }
        Check.same("as now", x.loud(), x.now(3));
        x = Tell.town("town coin 10 purse 0 tax 50 trust 5 frost 0;tower holds 999;bell 100 tin 0 note 0 in 0;"
                + "due 50 in 0;due 5 in 0;");
        Check.same("5 are not paid at first", x.broke(), 0);
        Check.same("trust comes back without melting", x.loudly(), 0);
        Check.same("trust comes back without melting", x.loud(), 9);
    }

    private static void lawful() {
        BellMoney x = Tell.town(LookTest.TOWN);
        int[] due = {1, 1, 0, 1, 0, 0, 0, 0, 1, 1, 0, 0, 0, 0, 0, 0};
        for (int set = 0; set < 16; set++) {
            Check.same("lawful " + set, x.lawful(set), due[set]);
        }
        Check.same("no such set", x.lawful(16), -2);
        Check.same("no such set", x.lawful(-1), -2);
        x.melt(0);
        Check.same("it does not hang", x.lawful(1), 0);
        Check.same("free then", x.lawful(2), 1);
        x.cast(10, 0, 0, 1);
        Check.same("a cast one too", x.lawful(16), 1);
        Check.same("a cast one too", x.lawful(18), 1);
        Check.same("no such set", x.lawful(32), -2);
        x = Tell.town(HEAD + "tower holds 9;bell 1 tin 0 note 0 in 0;bell 1 tin 0 note 0 in 0;after 0 1;after 1 0;");
        Check.same("each behind the other", x.lawful(3), 0);
    }

    private static void silence() {
        String towers = HEAD + "tower holds 9000;tower holds 9000;";
        String bells = towers + "bell 1 tin 0 note 1 in 0;bell 1 tin 0 note 1 in 1;bell 1 tin 0 note 2 in 0;"
                + "bell 1 tin 0 note 2 in 1;bell 1 tin 0 note 2 in 1;bell 1 tin 0 note 3 in 1;";
        BellMoney x = Tell.town(bells + "ward 0 1;peal 1 2;");
        Check.same("both of note 1", x.silent(), 2);
        Check.same("both of note 1", x.silence(), 3);
        Check.same("none alone", x.guarded(), 0);
        x.cracks(0);
        Check.same("one is left", x.silent(), 1);
        Check.same("one is left", x.silence(), 2);
        Check.same("one is left", x.guarded(), 2);
        x.cracks(1);
        Check.same("one does already", x.silent(), -1);
        Check.same("one does already", x.silence(), -1);
        Check.same("none rings it", x.guarded(), 0);
        x = Tell.town(bells + "ward 1;ward 0;peal 2;");
        Check.same("ward 1's only", x.silent(), 1);
        Check.same("ward 1's only", x.silence(), 4);
        Check.same("ward 1's only", x.guarded(), 4);
        x = Tell.town(bells + "ward 1;ward 0;peal 2 3;");
        Check.same("ward 1 misses 3", x.silent(), -1);
        Check.same("what they hear now is guarded all the same", x.guarded(), 4 + 32);
        x = Tell.town(bells + "peal 2 3;");
        Check.same("no ward", x.silent(), -1);
        Check.same("no ward", x.guarded(), 0);
        x = Tell.town(bells + "ward 0;");
        Check.same("no peal", x.silence(), -1);
        Check.same("no peal", x.guarded(), 0);
    }

    private static void alloys() {
        BellMoney x = Tell.town(LookTest.TOWN);
        Check.same("22 above", x.alloy(1, 0), 22);
        Check.same("1 below", x.alloy(1, 1), 1);
        // (500 * 22 + 100 * 20) / 600 = 13000 / 600
        Check.same("above", x.alloy(3, 0), 65);
        Check.same("below", x.alloy(3, 1), 3);
        x.melt(0);
        Check.same("hanging or not", x.alloy(3, 0), 65);
        Check.same("no set", x.alloy(0, 0), -2);
        Check.same("no such set", x.alloy(16, 0), -2);
        Check.same("no such set", x.alloy(-1, 0), -2);
        Check.same("no such what", x.alloy(1, 2), -2);
        Check.same("no such what", x.alloy(1, -1), -2);
        x = Tell.town(HEAD + "tower holds 9;bell 9 tin 0 note 0 in 0;");
        Check.same("no tin", x.alloy(1, 0), 0);
        Check.same("no tin", x.alloy(1, 1), 1);
    }

    private static void casts() {
        BellMoney x = Tell.town(LookTest.TOWN);
        Check.same("no such ounces", x.casts(0, 0, 40), -2);
        Check.same("no such ounces", x.castOf(10001, 0, 40), -2);
        Check.same("no such tin", x.casts(1, -1, 40), -2);
        Check.same("no such tin", x.castOf(1, 0, 41), -2);
        Check.same("an earlier one", x.casts(1, 21, 20), -2);
        Check.same("an earlier one", x.castOf(1, 21, 20), -2);
        Check.same("the least of all", x.casts(1, 0, 40), 100);
        Check.same("more than there is", x.casts(10000, 0, 40), -1);
        Check.same("which", x.castOf(98, 0, 40), 2);
        Check.same("98 are left of 100", x.castOf(99, 0, 40), 8);
        Check.same("both ends", x.castOf(1, 22, 22), 1);
        Check.same("just above 22", x.casts(491, 22, 25), 800);
        Check.same("each for itself, together", x.castOf(98 + 118, 0, 40), 10);
        Check.same("an alloy between two tins is of neither", x.casts(500, 21, 21), -1);
        Check.same("21 2/3", x.castOf(588, 21, 22), 3);
        Check.same("none is enough", x.castOf(1002, 0, 40), -1);
        x.melt(0);
        Check.same("bells that hang", x.castOf(1, 22, 22), -1);
        // 490 + 49: a fiftieth is lost of each for itself, not of 550 as one
        x = Tell.town(HEAD + "tower holds 9000;bell 49 tin 1 note 0 in 0;bell 49 tin 1 note 0 in 0;");
        Check.same("nothing is lost", x.castOf(98, 1, 1), 3);
        Check.same("like ones: the least set", x.castOf(49, 1, 1), 1);
    }

    private static void tested() {
        BellMoney x = Tell.town(LookTest.TOWN);
        // tin of sets, cut: 0:22 1:20 2:25 3:10 01:21 02:23 03:19 12:23 13:14 23:20 012:22 013:19 023:21 123:20 0123:21
        int[] counts = {1, 1, 2, 3, 3, 2, 2, 1};
        int[] tins = {10, 14, 19, 20, 21, 22, 23, 25};
        for (int i = 0; i < tins.length; i++) {
            Check.same("sets of tin " + tins[i], x.tested(tins[i], -1), counts[i]);
        }
        Check.same("none", x.tested(0, -1), 0);
        Check.same("in all", x.sure(20, -1, 0), 0);
        Check.same("in some", x.sure(20, -1, 1), 14);
        Check.same("in all", x.sure(21, -1, 0), 1);
        Check.same("in all", x.sure(22, -1, 0), 1);
        Check.same("in some", x.sure(22, -1, 1), 7);
        Check.same("fewest", x.few(21, -1), 2);
        Check.same("fewest", x.few(20, -1), 1);
        Check.same("by coins", x.tested(22, 49), 1);
        Check.same("by coins", x.tested(22, 87), 1);
        Check.same("by coins", x.sure(22, 87, 0), 7);
        Check.same("by coins", x.few(22, 87), 3);
        Check.same("by coins", x.tested(22, 0), 0);
        Check.same("without any", x.sure(22, 1, 0), 0);
        Check.same("without any", x.sure(22, 1, 1), 0);
        Check.same("without any", x.few(22, 1), -1);
        x.melt(0);
        Check.same("hanging or not", x.tested(22, -1), 2);
        x.cast(10, 0, 0, 0);
        Check.same("cast ones too", x.tested(0, -1), 1);
        BellMoney small = Tell.town(HEAD + "tower holds 1;bell 1 tin 7 note 0 in 0;");
        Check.same("one ounce", small.tested(7, 0), 1);
        Check.same("one ounce", small.tested(7, 1), 0);
        Check.same("no such tin", x.tested(-1, -1), -2);
        Check.same("no such tin", x.tested(41, -1), -2);
        Check.same("no such coins", x.tested(22, -2), -2);
        Check.same("no such tin", x.sure(41, -1, 0), -2);
        Check.same("no such coins", x.sure(22, -2, 0), -2);
        Check.same("no such what", x.sure(22, -1, 2), -2);
        Check.same("no such what", x.sure(22, -1, -1), -2);
        Check.same("no such tin", x.few(41, -1), -2);
        Check.same("no such coins", x.few(22, -2), -2);
    }

    private static void holds() {
        BellMoney x = Tell.town(HEAD + "tower holds 10;tower holds 9;tower holds 15;tower holds 19;"
                + "bell 10 tin 0 note 0 in 0;bell 9 tin 0 note 0 in 1;bell 15 tin 0 note 0 in 2;");
        Check.same("15 here, 19 there", x.hold(), 2);
        Check.same("15 here, 19 there", x.held(), 12);
        x.melt(2);
        Check.same("19 in one", x.hold(), 1);
        Check.same("19 in one", x.held(), 8);
        x.melt(0);
        Check.same("9 in any", x.held(), 1);
        x.melt(1);
        Check.same("none hangs", x.hold(), 0);
        Check.same("none hangs", x.held(), 0);
        x = Tell.town(HEAD + "tower holds 12;tower holds 12;tower holds 12;"
                + "bell 7 tin 0 note 0 in 0;bell 7 tin 0 note 0 in 1;bell 7 tin 0 note 0 in 2;");
        Check.same("each in one", x.hold(), 3);
        Check.same("each in one", x.held(), 7);
        Check.same("just so much", Tell.town(HEAD + "tower holds 10;tower holds 30;bell 4 tin 0 note 0 in 0;"
                + "bell 6 tin 0 note 0 in 0;").held(), 1);
        Check.same("a cracked one hangs too", x.cracks(0), 0);
        Check.same("each in one", x.hold(), 3);
    }

    private static void fills() {
        BellMoney x = Tell.town(HEAD + "tower holds 100;tower holds 20;tower holds 5;"
                + "bell 12 tin 0 note 0 in 0;bell 9 tin 0 note 0 in 0;bell 8 tin 0 note 0 in 0;"
                + "bell 20 tin 0 note 0 in 0;bell 11 tin 0 note 0 in 0;");
        Check.same("all", x.fills(0), 60);
        Check.same("all", x.filled(0), 31);
        Check.same("20", x.fills(1), 20);
        Check.same("12 and 8, the least", x.filled(1), 5);
        Check.same("none", x.fills(2), 0);
        Check.same("none", x.filled(2), 0);
        x.melt(0);
        Check.same("bells that hang", x.filled(1), 8);
        Check.same("no such tower", x.fills(3), -2);
        Check.same("no such tower", x.fills(-1), -2);
        Check.same("no such tower", x.filled(3), -2);
        Check.same("no such tower", x.filled(-1), -2);
    }

    private static void sums() {
        // coins 49, 9, 29, 11; 2 is kept; 1 behind 0; two stay
        BellMoney x = Tell.town(LookTest.TOWN);
        Check.same("nothing", x.pays(0), 0);
        Check.same("nothing", x.paid(0), 0);
        Check.same("9 alone: it may be in a lawful set", x.pays(1), 9);
        Check.same("one", x.paid(1), 1);
        Check.same("just so many", x.pays(20), 20);
        Check.same("two", x.paid(20), 2);
        Check.same("49", x.pays(21), 49);
        Check.same("one", x.paid(21), 1);
        Check.same("all but the kept one", x.pays(61), 69);
        Check.same("three", x.paid(61), 3);
        Check.same("none gives so many", x.pays(70), -1);
        Check.same("none gives so many", x.paid(70), -1);
        Check.same("none gives so many", x.pays(1000000), -1);
        Check.same("below 0", x.pays(-1), -2);
        Check.same("too many", x.pays(1000001), -2);
        Check.same("below 0", x.paid(-1), -2);
        Check.same("too many", x.paid(1000001), -2);
        x.melt(0);
        Check.same("gone", x.pays(12), 20);
        x = Tell.town(HEAD + "tower holds 9000;bell 100 tin 0 note 0 in 0;bell 200 tin 0 note 0 in 0;"
                + "bell 310 tin 0 note 0 in 0;");
        Check.same("9 and 19, not 30", x.pays(28), 28);
        Check.same("two", x.paid(28), 2);
        x = Tell.town(HEAD + "tower holds 9000;bell 5 tin 0 note 0 in 0;bell 300 tin 0 note 0 in 0;"
                + "bell 152 tin 0 note 0 in 0;bell 155 tin 0 note 0 in 0;");
        Check.same("29, and 14 with 15", x.pays(16), 29);
        Check.same("the fewest", x.paid(16), 1);
    }
}
